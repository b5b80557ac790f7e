/-! ===== what the reference works out of what is known ===== -/
def fMv (s B f p t : Nat) : Bool := bfr B t && (decide (t ≠ loP p) && (decide (t ≠ hiP p) && stp (s.testBit 0) f t))
def foxG (q : Nat → Option Nat) (s B f p : Nat) : Nat → Nat → Nat → Option Nat
  | 0, _, most => some most
  | k + 1, i, most => if fMv s B f p i then (match q (128 * i + p) with
    | none => none
    | some d => foxG q s B f p k (i + 1) (max most (d + 1))) else foxG q s B f p k (i + 1) most
def hMv (s B f m o t : Nat) : Bool := bfr B t && (decide (t ≠ o) && (decide (t ≠ f) && stp (s.testBit 1) m t))
def hunG (q : Nat → Option Nat) (s B f m o : Nat) : Nat → Nat → Option Nat → Option Nat
  | 0, _, least => least
  | k + 1, i, least => hunG q s B f m o k (i + 1) (if hMv s B f m o i then omin least (q (2048 + 128 * f + prN i o)) else least)
/-- the distances that are held are what q tells -/
def QD (m : Mem) (q : Nat → Option Nat) : Prop := ∀ n, n < 4096 → m 38 n = dI (q n) ∧ ∀ d, q n = some d → d < 1000
theorem ofFox_ok {m : Mem} {g : Nat → Nat} {q : Nat → Option Nat} (hp : PE m) (ha : MA m g) (hs : g 0 < 2 ∧ g 1 < 2 ∧ g 2 < 2) (hB : g 3 < 65536) (hq : QD m q) {f p : Nat} (hf : f < 16) (h1 : p < 120) :
    xt_X9_ofFox (nI f) (nI p) m = some (dI (foxG q (sOf g) (g 3) f p 16 0 0)) := by
  unfold xt_X9_ofFox
  have hl := lohi h1
  have hgp := gp hp h1
  have hv : vp_in (nI p) 120 := xin rfl h1 (by decide)
  have hv0 : vp_in (0 : Int32) 8 := by unfold vp_in; decide
  have key : ∀ (n i most : Nat), i ≤ 16 → 16 - i < n → most ≤ 1000 → xt_X9_ofFox_l5 (nI f) (nI p) m (fun (v3_6 : Int32) => (some v3_6)) n (nI most) (nI i) = some (dI (foxG q (sOf g) (g 3) f p (16 - i) i most)) := by
    intro n
    induction n with
    | zero => intro i most _ h; omega
    | succ n ih =>
      intro i most hi hn hm
      rw [xt_X9_ofFox_l5]
      by_cases c : i = 16
      · subst c
        rw [if_pos (show (16 : Int32) ≤ nI 16 by decide)]; rfl
      · have hi2 : i < 16 := by omega
        rw [lit 16, if_neg (by rw [ble _ _ (by omega) (by omega)]; omega)]
        have e16 : 16 - i = (16 - (i + 1)) + 1 := by omega
        rw [e16, foxG]
        simp only [xgd_in hv, xgd_in hv0, cl (show p < 2 ^ 31 by omega), hgp.1, hgp.2, isFree_ok ha hB hi2, Option.bind_some, nI_1 i, show (0 : Int32).toNatClampNeg = 0 from rfl, ha 0 (by omega), lit 128, pk_mul, nI_add]
        have hv2 : vp_in (nI (128 * i + p)) 4096 := xin rfl (by omega) (by decide)
        simp only [xgd_in hv2, cl (show 128 * i + p < 2 ^ 31 by omega), (hq (128 * i + p) (by omega)).1]
        have next := ih (i + 1) most (by omega) (by omega) hm
        unfold fMv
        rw [(sOf_bits hs).1]
        by_cases z1 : bfr (g 3) i = true
        · rw [z1, if_neg (show ¬ bI true = 0 by decide)]
          by_cases c1 : i = loP p
          · rw [if_pos (by rw [c1]), if_neg (by rw [decide_eq_false (show ¬ i ≠ loP p from fun z => z c1)]; simp)]
            exact next
          · rw [if_neg (by rw [nI_eq (by omega) (by omega)]; exact c1)]
            by_cases c2 : i = hiP p
            · rw [if_pos (by rw [c2]), if_neg (by rw [decide_eq_false (show ¬ i ≠ hiP p from fun z => z c2)]; simp)]
              exact next
            · rw [if_neg (by rw [nI_eq (by omega) (by omega)]; exact c2), decide_eq_true c1, decide_eq_true c2]
              have a1 := isStep_ok hf hi2 (decide (g 0 = 1))
              have tail : (if bI (stp (decide (g 0 = 1)) f i) = 0 then xt_X9_ofFox_l5 (nI f) (nI p) m (fun v3_6 => some v3_6) n (nI most) (nI (i + 1))
                  else if 0 ≤ dI (q (128 * i + p)) then Option.bind (xt_X9_greater (nI most) (dI (q (128 * i + p)) + 1)) (fun o_3 => xt_X9_ofFox_l5 (nI f) (nI p) m (fun v3_6 => some v3_6) n o_3 (nI (i + 1))) else some (-6 : Int32)) =
                  some (dI (if (true && (true && (true && stp (decide (g 0 = 1)) f i))) = true then (match q (128 * i + p) with | none => none | some d => foxG q (sOf g) (g 3) f p (16 - (i + 1)) (i + 1) (max most (d + 1))) else foxG q (sOf g) (g 3) f p (16 - (i + 1)) (i + 1) most)) := by
                cases z2 : stp (decide (g 0 = 1)) f i
                · rw [if_pos (by decide), if_neg (by decide)]; exact next
                · rw [if_neg (show ¬ bI true = 0 by decide), if_pos (show (true && (true && (true && true))) = true by decide)]
                  cases z3 : q (128 * i + p) with
                  | none => rw [if_neg (by show ¬ (0 : Int32) ≤ -6; decide)]; rfl
                  | some d =>
                    have hd := (hq (128 * i + p) (by omega)).2 d z3
                    rw [if_pos (by show (0 : Int32) ≤ nI d; exact nI_pos' (by omega))]
                    show Option.bind (xt_X9_greater (nI most) (nI d + 1)) _ = _
                    rw [nI_1, greater_ok (by omega) (by omega), Option.bind_some]
                    exact ih (i + 1) (max most (d + 1)) (by omega) (by omega) (by omega)
              by_cases c3 : g 0 = 1
              · rw [if_pos (by rw [c3]; rfl)]
                rw [decide_eq_true c3] at a1 tail ⊢
                have a1' : xt_X9_isStep (nI f) (nI i) (1 : Int32) = _ := a1
                rw [a1', Option.bind_some]
                exact tail
              · have c4 : g 0 = 0 := by omega
                rw [if_neg (by rw [c4]; decide)]
                rw [decide_eq_false c3] at a1 tail ⊢
                have a1' : xt_X9_isStep (nI f) (nI i) (0 : Int32) = _ := a1
                rw [a1', Option.bind_some]
                exact tail
        · have z1' : bfr (g 3) i = false := by simpa using z1
          rw [z1', if_pos (by decide), if_neg (by simp)]
          exact next
  exact key 10000 0 0 (by omega) (by omega) (by omega)
def oLt2 (m : Mem) (q : Nat → Option Nat) : Prop := QD m q
theorem omin_lt {a b : Option Nat} {N : Nat} (ha : ∀ x, a = some x → x < N) (hb : ∀ x, b = some x → x < N) : ∀ x, omin a b = some x → x < N := by
  intro x h
  cases a with
  | none => exact hb x h
  | some y =>
    cases b with
    | none => exact ha x h
    | some z =>
      have h1 := ha y rfl
      have h2 := hb z rfl
      cases h
      omega
theorem ofHunter_ok {m : Mem} {g : Nat → Nat} {q : Nat → Option Nat} (ha : MA m g) (hs : g 0 < 2 ∧ g 1 < 2 ∧ g 2 < 2) (hB : g 3 < 65536) (hq : QD m q) {f a b : Nat} (hf : f < 16) (hfa : a < 16) (hfb : b < 16) :
    xt_X9_ofHunter (nI f) (nI a) (nI b) m = some (dI (hunG q (sOf g) (g 3) f a b 16 0 none)) := by
  unfold xt_X9_ofHunter
  have hv1 : vp_in (1 : Int32) 8 := by unfold vp_in; decide
  have key : ∀ (n i : Nat) (least : Option Nat), i ≤ 16 → 16 - i < n → (∀ x, least = some x → x < 1000) → xt_X9_ofHunter_l7 (nI f) (nI a) (nI b) m (fun (v3_6 : Int32) => (some v3_6)) n (dI least) (nI i) = some (dI (hunG q (sOf g) (g 3) f a b (16 - i) i least)) := by
    intro n
    induction n with
    | zero => intro i most _ h; omega
    | succ n ih =>
      intro i least hi hn hm
      rw [xt_X9_ofHunter_l7]
      by_cases c : i = 16
      · subst c
        rw [if_pos (show (16 : Int32) ≤ nI 16 by decide)]; rfl
      · have hi2 : i < 16 := by omega
        rw [lit 16, if_neg (by rw [ble _ _ (by omega) (by omega)]; omega)]
        have e16 : 16 - i = (16 - (i + 1)) + 1 := by omega
        rw [e16, hunG]
        simp only [xgd_in hv1, isFree_ok ha hB hi2, Option.bind_some, nI_1 i, show (1 : Int32).toNatClampNeg = 1 from rfl, ha 1 (by omega)]
        have next := ih (i + 1) least (by omega) (by omega) hm
        unfold hMv
        rw [(sOf_bits hs).2.1]
        by_cases z1 : bfr (g 3) i = true
        · rw [z1, if_neg (show ¬ bI true = 0 by decide)]
          by_cases c1 : i = b
          · rw [if_pos (by rw [c1]), if_neg (by rw [decide_eq_false (show ¬ i ≠ b from fun z => z c1)]; simp)]
            exact next
          · rw [if_neg (by rw [nI_eq (by omega) (by omega)]; exact c1)]
            by_cases c2 : i = f
            · rw [if_pos (by rw [c2]), if_neg (by rw [decide_eq_false (show ¬ i ≠ f from fun z => z c2)]; simp)]
              exact next
            · rw [if_neg (by rw [nI_eq (by omega) (by omega)]; exact c2), decide_eq_true c1, decide_eq_true c2]
              have hpr := (pr_lohi hi2 hfb c1).1
              have hnum : xt_X9_numberOf (1 : Int32) (nI f) (nI i) (nI b) = some (nI (2048 + 128 * f + prN i b)) := mnumberOf_ok 1 f hi2 hfb c1
              have hv2 : vp_in (nI (2048 + 128 * f + prN i b)) 4096 := xin rfl (by omega) (by decide)
              have hqn := hq (2048 + 128 * f + prN i b) (by omega)
              simp only [hnum, Option.bind_some, xgd_in hv2, cl (show 2048 + 128 * f + prN i b < 2 ^ 31 by omega), hqn.1, nearer_ok (a := least) (b := q (2048 + 128 * f + prN i b)) (fun x h => by have := hm x h; omega) (fun x h => by have := hqn.2 x h; omega)]
              have a1 := isStep_ok hfa hi2 (decide (g 1 = 1))
              have next2 := ih (i + 1) (omin least (q (2048 + 128 * f + prN i b))) (by omega) (by omega) (omin_lt hm hqn.2)
              have tail : (if bI (stp (decide (g 1 = 1)) a i) = 0 then xt_X9_ofHunter_l7 (nI f) (nI a) (nI b) m (fun v3_6 => some v3_6) n (dI least) (nI (i + 1))
                  else xt_X9_ofHunter_l7 (nI f) (nI a) (nI b) m (fun v3_6 => some v3_6) n (dI (omin least (q (2048 + 128 * f + prN i b)))) (nI (i + 1))) =
                  some (dI (hunG q (sOf g) (g 3) f a b (16 - (i + 1)) (i + 1) (if (true && (true && (true && stp (decide (g 1 = 1)) a i))) = true then omin least (q (2048 + 128 * f + prN i b)) else least))) := by
                cases z2 : stp (decide (g 1 = 1)) a i
                · rw [if_pos (show bI false = 0 by decide), if_neg (by decide)]; exact next
                · rw [if_neg (show ¬ bI true = 0 by decide), if_pos (show (true && (true && (true && true))) = true by decide)]; exact next2
              by_cases c3 : g 1 = 1
              · rw [if_pos (by rw [c3]; rfl)]
                rw [decide_eq_true c3] at a1 tail ⊢
                have a1' : xt_X9_isStep (nI a) (nI i) (1 : Int32) = _ := a1
                rw [a1', Option.bind_some]
                exact tail
              · have c4 : g 1 = 0 := by omega
                rw [if_neg (by rw [c4]; decide)]
                rw [decide_eq_false c3] at a1 tail ⊢
                have a1' : xt_X9_isStep (nI a) (nI i) (0 : Int32) = _ := a1
                rw [a1', Option.bind_some]
                exact tail
        · have z1' : bfr (g 3) i = false := by simpa using z1
          rw [z1', if_pos (by decide), if_neg (by simp)]
          exact next
  exact key 10000 0 none (by omega) (by omega) (fun x h => by cases h)
theorem hunG_lt {q : Nat → Option Nat} {s B f a b : Nat} (hb : b < 16) (hf : f < 16) (hq : ∀ n, n < 4096 → ∀ d, q n = some d → d < 1000) : ∀ (k i : Nat) (least : Option Nat), i + k ≤ 16 → (∀ x, least = some x → x < 1000) → ∀ x, hunG q s B f a b k i least = some x → x < 1000 := by
  intro k
  induction k with
  | zero => intro i least _ h x hx; exact h x hx
  | succ k ih =>
    intro i least hik h x hx
    rw [hunG] at hx
    refine ih (i + 1) _ (by omega) ?_ x hx
    split
    · rename_i c
      have c2 : i ≠ b := by
        unfold hMv at c
        simp only [Bool.and_eq_true, decide_eq_true_eq] at c
        exact c.2.1
      have := (pr_lohi (show i < 16 by omega) hb c2).1
      exact omin_lt h (hq _ (by omega))
    · exact h
/-- what hunters can reach: the least of it -/
def hunV (q : Nat → Option Nat) (s B f p : Nat) : Option Nat :=
  if hCatch s f p then some 1 else
    let u := omin (hunG q s B f (loP p) (hiP p) 16 0 none) (hunG q s B f (hiP p) (loP p) 16 0 none)
    let u := if s.testBit 2 then omin u (q (2048 + 128 * f + p)) else u
    match u with
    | none => none
    | some x => some (x + 1)
theorem ofHunters_ok {m : Mem} {g : Nat → Nat} {q : Nat → Option Nat} (hp : PE m) (ha : MA m g) (hs : g 0 < 2 ∧ g 1 < 2 ∧ g 2 < 2) (hB : g 3 < 65536) (hq : QD m q) {f p : Nat} (hf : f < 16) (h1 : p < 120) :
    xt_X9_ofHunters (nI f) (nI p) m = some (dI (hunV q (sOf g) (g 3) f p)) := by
  unfold xt_X9_ofHunters
  have hl := lohi h1
  have hgp := gp hp h1
  have hv : vp_in (nI p) 120 := xin rfl h1 (by decide)
  have hv2 : vp_in (2 : Int32) 8 := by unfold vp_in; decide
  have hv3 : vp_in (nI (2048 + 128 * f + p)) 4096 := xin rfl (by omega) (by decide)
  rw [canCatch_ok hp ha hs hf h1, Option.bind_some]
  unfold hunV
  cases hc : hCatch (sOf g) f p
  · rw [if_pos (show bI false = 0 by decide), if_neg (by decide)]
    simp only [xgd_in hv, xgd_in hv2, cl (show p < 2 ^ 31 by omega), hgp.1, hgp.2, ofHunter_ok ha hs hB hq hf (show loP p < 16 by omega) hl.2.1, ofHunter_ok ha hs hB hq hf hl.2.1 (show loP p < 16 by omega), Option.bind_some, show (2 : Int32).toNatClampNeg = 2 from rfl, ha 2 (by omega), lit 2048, lit 128, pk_mul, nI_add]
    have hqq : ∀ n, n < 4096 → ∀ d, q n = some d → d < 1000 := fun n hn => (hq n hn).2
    have l1 := hunG_lt (s := sOf g) (B := g 3) (a := loP p) hl.2.1 hf hqq 16 0 none (by omega) (fun x h => by cases h)
    have l2 := hunG_lt (s := sOf g) (B := g 3) (a := hiP p) (show loP p < 16 by omega) hf hqq 16 0 none (by omega) (fun x h => by cases h)
    generalize hunG q (sOf g) (g 3) f (loP p) (hiP p) 16 0 none = u1 at l1
    generalize hunG q (sOf g) (g 3) f (hiP p) (loP p) 16 0 none = u2 at l2
    have l3 := omin_lt l1 l2
    have hqn := hq (2048 + 128 * f + p) (by omega)
    have l4 := omin_lt l3 hqn.2
    simp only [nearer_ok (a := u1) (b := u2) (fun x h => by have := l1 x h; omega) (fun x h => by have := l2 x h; omega), Option.bind_some, xgd_in hv3, cl (show 2048 + 128 * f + p < 2 ^ 31 by omega), hqn.1, nearer_ok (a := omin u1 u2) (b := q (2048 + 128 * f + p)) (fun x h => by have := l3 x h; omega) (fun x h => by have := hqn.2 x h; omega)]
    have fin : ∀ u : Option Nat, (∀ x, u = some x → x < 1000) → (if 0 ≤ dI u then some (dI u + 1) else some (-6 : Int32)) = some (dI (match u with | none => none | some x => some (x + 1))) := by
      intro u hu
      cases u with
      | none => rw [if_neg (by show ¬ (0 : Int32) ≤ -6; decide)]; rfl
      | some x =>
        have := hu x rfl
        rw [if_pos (by show (0 : Int32) ≤ nI x; exact nI_pos' (by omega))]
        show some (nI x + 1) = some (nI (x + 1))
        rw [nI_1]
    rw [(sOf_bits hs).2.2]
    by_cases c3 : g 2 = 1
    · rw [if_pos (by rw [c3]; rfl), decide_eq_true c3, if_pos rfl]
      exact fin _ l4
    · have c4 : g 2 = 0 := by omega
      rw [if_neg (by rw [c4]; decide), decide_eq_false c3, if_neg (show ¬ (false = true) by decide)]
      exact fin _ l3
  · rw [if_neg (show ¬ bI true = 0 by decide), if_pos rfl]; rfl
