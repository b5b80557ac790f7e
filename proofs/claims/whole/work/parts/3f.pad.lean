/-! ===== the pad ===== -/
def PC (m : Mem) (L : Nat) (tx : Nat → Int32) : Prop := m 25 1 = nI L ∧ ∀ i, i < L → m 26 i = tx i
def PM (m : Mem) (L : Nat) (tx : Nat → Int32) : Prop := m 31 20 = nI L ∧ ∀ i, i < L → m 45 i = tx i
theorem cst (c : Int32) {i : Nat} (h : i < 24) : xt_X5_canStand c (nI i) = xt_X9_canStand c (nI i) := by
  unfold xt_X5_canStand xt_X9_canStand
  by_cases c1 : i < 19
  · rw [if_pos (show nI i < 20 by rw [lit 20, nI_ltI (by omega) (by omega)]; omega), if_neg (show ¬ nI i = 19 by rw [lit 19, nI_eq (by omega) (by omega)]; omega), if_pos (show nI i < 19 by rw [lit 19, nI_ltI (by omega) (by omega)]; omega)]
  · by_cases c2 : i = 19
    · subst c2
      rw [if_pos (show nI 19 < 20 by decide), if_pos (show nI 19 = 19 by decide), if_neg (show ¬ nI 19 < 19 by decide), if_pos (show nI 19 = 19 by decide)]
    · rw [if_neg (show ¬ nI i < 20 by rw [lit 20, nI_ltI (by omega) (by omega)]; omega), if_neg (show ¬ nI i < 19 by rw [lit 19, nI_ltI (by omega) (by omega)]; omega), if_neg (show ¬ nI i = 19 by rw [lit 19, nI_eq (by omega) (by omega)]; omega)]
theorem cst_b (c : Int32) {i : Nat} (h : i < 24) : ∃ b : Bool, xt_X9_canStand c (nI i) = some (bI b) ∧ (b = true → i < 20) := by
  unfold xt_X9_canStand
  have ifb : ∀ (P : Prop) [Decidable P] (a d : Option Int32), (∃ b : Bool, a = some (bI b)) → (∃ b : Bool, d = some (bI b)) → ∃ b : Bool, (if P then a else d) = some (bI b) := by
    intro P _ a d h1 h2
    by_cases q : P
    · rw [if_pos q]; exact h1
    · rw [if_neg q]; exact h2
  have t1 : ∃ b : Bool, (some (1 : Int32)) = some (bI b) := ⟨true, rfl⟩
  have t0 : ∃ b : Bool, (some (0 : Int32)) = some (bI b) := ⟨false, rfl⟩
  by_cases c1 : i < 19
  · rw [if_pos (show nI i < 19 by rw [lit 19, nI_ltI (by omega) (by omega)]; omega)]
    obtain ⟨b, hb⟩ := ifb (nI i - nI i / (5 : Int32) * (5 : Int32) = 4) _ _ (ifb (c = 47) _ _ t1 t0) (ifb (c = 46) _ _ t1 (ifb (c = 35) _ _ t1 (ifb (c = 70) _ _ t1 (ifb (c = 72) _ _ t1 t0))))
    exact ⟨b, hb, fun _ => by omega⟩
  · rw [if_neg (show ¬ nI i < 19 by rw [lit 19, nI_ltI (by omega) (by omega)]; omega)]
    by_cases c2 : i = 19
    · rw [if_pos (show nI i = 19 by rw [c2]; rfl)]
      obtain ⟨b, hb⟩ := ifb (c = 104) _ _ t1 (ifb (c = 102) _ _ t1 t0)
      exact ⟨b, hb, fun _ => by omega⟩
    · rw [if_neg (show ¬ nI i = 19 by rw [lit 19, nI_eq (by omega) (by omega)]; omega)]
      exact ⟨false, rfl, fun z => by cases z⟩
theorem fault_j {m m' : Mem} {L : Nat} {tx : Nat → Int32} (hL : L ≤ 24) (hc : PC m L tx) (hm : PM m' L tx) : ∀ n i, i ≤ L → L - i < n → i ≤ 20 →
    ∃ e : Int32, xt_X5_firstFault_l2 m (fun (_ : Unit) => (if (20 : Int32) ≤ ((m 25) 1) then (some (-6 : Int32)) else (some ((m 25) 1)))) n (nI i) = some e ∧ xt_X9_fault_l2 m' (fun (v1_2 : Int32) => (if v1_2 < ((m' 31) 20) then (some v1_2) else (if (20 : Int32) ≤ v1_2 then (some (-6 : Int32)) else (some v1_2)))) n (nI i) = some e ∧ ((e = -6 ∧ L = 20) ∨ (¬ e = -6 ∧ ¬ e < 0)) := by
  intro n
  induction n with
  | zero => intro i _ h; omega
  | succ n ih =>
    intro i hi hn h20
    rw [xt_X5_firstFault_l2, xt_X9_fault_l2, hc.1, hm.1]
    have one : ∀ j, j < 2 ^ 31 → ¬ nI j = -6 ∧ ¬ nI j < 0 := fun j hj => ⟨nI_m6 hj, nIneg hj⟩
    by_cases c : i = L
    · subst c
      have q : nI i ≤ nI i := Int32.le_refl _
      rw [if_pos q, if_pos q]
      rw [if_neg (show ¬ nI i < nI i by rw [nI_ltI (by omega) (by omega)]; omega)]
      by_cases c2 : i = 20
      · subst c2
        rw [if_pos (show (20 : Int32) ≤ nI 20 by decide)]
        exact ⟨_, rfl, rfl, Or.inl ⟨rfl, rfl⟩⟩
      · rw [if_neg (show ¬ (20 : Int32) ≤ nI i by rw [lit 20, ble _ _ (by omega) (by omega)]; omega)]
        exact ⟨_, rfl, rfl, Or.inr (one _ (by omega))⟩
    · have lt : ¬ nI L ≤ nI i := by rw [ble _ _ (by omega) (by omega)]; omega
      rw [if_neg lt, if_neg (show ¬ (24 : Int32) ≤ nI i by rw [lit 24, ble _ _ (by omega) (by omega)]; omega), if_neg lt, xgd_in (xin rfl (show i < 24 by omega) (by decide)), xgd_in (xin rfl (show i < 24 by omega) (by decide)), cl (by omega), hc.2 i (by omega), hm.2 i (by omega), cst _ (show i < 24 by omega)]
      obtain ⟨b, b1, b2⟩ := cst_b (tx i) (show i < 24 by omega)
      rw [b1, Option.bind_some, Option.bind_some]
      cases b
      · rw [if_pos (show bI false = 0 by decide), if_pos (show bI false = 0 by decide), if_pos (show nI i < nI L by rw [nI_ltI (by omega) (by omega)]; omega)]
        exact ⟨_, rfl, rfl, Or.inr (one _ (by omega))⟩
      · rw [if_neg (show ¬ bI true = 0 by decide), if_neg (show ¬ bI true = 0 by decide), nI_1]
        have := ih (i + 1) (by omega) (by omega) (by have := b2 rfl; omega)
        rw [hc.1, hm.1] at this
        exact this
theorem fault_ok {m m' : Mem} {L : Nat} {tx : Nat → Int32} (hL : L ≤ 24) (hc : PC m L tx) (hm : PM m' L tx) :
    ∃ e : Int32, xt_X5_firstFault m = some e ∧ xt_X9_fault m' = some e ∧ ((e = -6 ∧ L = 20) ∨ (¬ e = -6 ∧ ¬ e < 0)) := by
  unfold xt_X5_firstFault xt_X9_fault
  exact fault_j hL hc hm 10000 0 (by omega) (by omega) (by omega)
/-! where a sign stands -/
def plN (tx : Nat → Int32) (ch : Int32) : Nat → Nat
  | 0 => 0
  | k + 1 => plN tx ch k ||| (if tx (k + k / 4) = ch then 2 ^ k else 0)
theorem plN_lt (tx : Nat → Int32) (ch : Int32) : ∀ k, plN tx ch k < 2 ^ k
  | 0 => by show 0 < 1; omega
  | k + 1 => by
    have h1 := plN_lt tx ch k
    have h2 : 2 ^ k < 2 ^ (k + 1) := by rw [Nat.pow_succ]; omega
    show plN tx ch k ||| _ < _
    refine Nat.or_lt_two_pow (by omega) ?_
    by_cases c : tx (k + k / 4) = ch
    · rw [if_pos c]; exact h2
    · rw [if_neg c]; omega
theorem plN_bit (tx : Nat → Int32) (ch : Int32) (i : Nat) : ∀ k, (plN tx ch k).testBit i = (decide (i < k) && decide (tx (i + i / 4) = ch))
  | 0 => by show (0 : Nat).testBit i = _; simp
  | k + 1 => by
    show (plN tx ch k ||| _).testBit i = _
    rw [Nat.testBit_or, plN_bit tx ch i k]
    by_cases e : i = k
    · subst e
      by_cases c : tx (i + i / 4) = ch
      · rw [if_pos c, Nat.testBit_two_pow_self]; simp [c]
      · rw [if_neg c]; simp [c]
    · have e2 : (if tx (k + k / 4) = ch then 2 ^ k else 0).testBit i = false := by
        by_cases c : tx (k + k / 4) = ch
        · rw [if_pos c, Nat.testBit_two_pow]; simp; omega
        · rw [if_neg c]; simp
      rw [e2, Bool.or_false]
      by_cases l : i < k
      · simp [l, show i < k + 1 by omega]
      · simp [l, show ¬ i < k + 1 by omega]
theorem cplaces_ok {m : Mem} {tx : Nat → Int32} (hc : PC m 20 tx) (ch : Int32) : xt_X5_placesOf ch m = some (nI (plN tx ch 16)) := by
  unfold xt_X5_placesOf
  have key := lup (fun n (s : Int32) v => xt_X5_placesOf_l4 ch m (fun (v2_1 : Int32) => (some v2_1)) n s v) (fun s => some s) 16
    (fun i s => s = nI (plN tx ch i))
    (fun n s _ => by
      show xt_X5_placesOf_l4 _ _ _ (n + 1) s (nI 16) = _
      rw [xt_X5_placesOf_l4, if_pos (show (16 : Int32) ≤ nI 16 by decide)])
    (fun n i s hi hI => by
      show ∃ s', _ ∧ xt_X5_placesOf_l4 _ _ _ (n + 1) s (nI i) = _
      rw [xt_X5_placesOf_l4, lit 16, if_neg (by rw [ble _ _ (by omega) (by omega)]; omega), lit 4, pk_div (by omega) (by omega) (by omega), nI_add, xgd_in (xin rfl (show i + i / 4 < 24 by omega) (by decide)), cl (by omega), hc.2 _ (by omega), nI_1, sh1 hi, hI]
      by_cases c : tx (i + i / 4) = ch
      · rw [if_pos c, nor]
        exact ⟨_, by show _ = nI (plN tx ch i ||| (if tx (i + i / 4) = ch then 2 ^ i else 0)); rw [if_pos c], rfl⟩
      · rw [if_neg c]
        exact ⟨_, by show _ = nI (plN tx ch i ||| (if tx (i + i / 4) = ch then 2 ^ i else 0)); rw [if_neg c, Nat.or_zero], rfl⟩)
    10000 0 0 (by omega) (by omega) rfl
  obtain ⟨s, h1, h2⟩ := key
  have h2' : xt_X5_placesOf_l4 ch m _ 10000 (0 : Int32) (0 : Int32) = _ := h2
  rw [h2', h1]
theorem mplaces_ok {m : Mem} {tx : Nat → Int32} (hc : PM m 20 tx) (ch : Int32) : xt_X9_placesOf ch m = some (nI (plN tx ch 16)) := by
  unfold xt_X9_placesOf
  have key := lup (fun n (s : Int32) v => xt_X9_placesOf_l4 ch m (fun (v2_1 : Int32) => (some v2_1)) n s v) (fun s => some s) 16
    (fun i s => s = nI (plN tx ch i))
    (fun n s _ => by
      show xt_X9_placesOf_l4 _ _ _ (n + 1) s (nI 16) = _
      rw [xt_X9_placesOf_l4, if_pos (show (16 : Int32) ≤ nI 16 by decide)])
    (fun n i s hi hI => by
      show ∃ s', _ ∧ xt_X9_placesOf_l4 _ _ _ (n + 1) s (nI i) = _
      rw [xt_X9_placesOf_l4, lit 16, if_neg (by rw [ble _ _ (by omega) (by omega)]; omega), lit 4, pk_rem (by omega) (by omega) (by omega), pk_div (by omega) (by omega) (by omega), lit 5, pk_mul, nI_add, show i / 4 * 5 + i % 4 = i + i / 4 by omega, xgd_in (xin rfl (show i + i / 4 < 24 by omega) (by decide)), cl (by omega), hc.2 _ (by omega), nI_1, sh1 hi, hI, lit 0, nor, nor]
      by_cases c : tx (i + i / 4) = ch
      · rw [if_pos c]
        exact ⟨_, by show _ = nI (plN tx ch i ||| (if tx (i + i / 4) = ch then 2 ^ i else 0)); rw [if_pos c], rfl⟩
      · rw [if_neg c]
        exact ⟨_, by show _ = nI (plN tx ch i ||| (if tx (i + i / 4) = ch then 2 ^ i else 0)); rw [if_neg c], rfl⟩)
    10000 0 0 (by omega) (by omega) rfl
  obtain ⟨s, h1, h2⟩ := key
  have h2' : xt_X9_placesOf_l4 ch m _ 10000 (0 : Int32) (0 : Int32) = _ := h2
  rw [h2', h1]
/-! the lowest and the highest place of a set -/
theorem lowest_j {x : Int32} {p : Nat → Bool} (hx : msk x p) {i : Nat} (hi : i < 16) (hp : p i = true) (hl : ∀ j, j < i → p j = false) : ∀ n j, j ≤ i → i - j < n →
    xt_X3_lowest_l2 x (fun (_ : Unit) => (some (0 : Int32))) n (nI j) = some (nI i) ∧ xt_X9_lowest_l2 x (fun (v1_2 : Int32) => (some v1_2)) n (nI j) = some (nI i) := by
  intro n
  induction n with
  | zero => intro j _ h; omega
  | succ n ih =>
    intro j hj hn
    rw [xt_X3_lowest_l2, xt_X9_lowest_l2, lit 16, if_neg (by rw [ble _ _ (by omega) (by omega)]; omega)]
    unfold xt_X9_has
    by_cases c : j = i
    · subst c
      have t1 := (hx.t1 hi).mpr hp
      rw [if_neg (by rw [t1]; decide), if_pos t1]
      exact ⟨rfl, rfl⟩
    · have t0 := (hx.t0 (show j < 16 by omega)).mpr (hl j (by omega))
      rw [if_pos t0, if_neg (by rw [t0]; decide), Option.bind_some, if_pos rfl, nI_1]
      exact ih (j + 1) (by omega) (by omega)
theorem lowest_ok {x : Int32} {p : Nat → Bool} (hx : msk x p) {i : Nat} (hi : i < 16) (hp : p i = true) (hl : ∀ j, j < i → p j = false) : xt_X3_lowest x = some (nI i) ∧ xt_X9_lowest x = some (nI i) :=
  lowest_j hx hi hp hl 10000 0 (by omega) (by omega)
theorem highest_j {x : Int32} {p : Nat → Bool} (hx : msk x p) {i : Nat} (hi : i < 16) (hp : p i = true) (hl : ∀ j, i < j → j < 16 → p j = false) : ∀ n j, i ≤ j → j < 16 → j - i < n →
    xt_X3_highest_l3 x (fun (_ : Unit) => (some (0 : Int32))) n (nI j) = some (nI i) := by
  intro n
  induction n with
  | zero => intro j _ _ h; omega
  | succ n ih =>
    intro j hj hj16 hn
    rw [xt_X3_highest_l3]
    by_cases c0 : j = 0
    · have : i = 0 := by omega
      rw [c0, if_pos (show nI 0 ≤ 0 by decide), this]; rfl
    · rw [if_neg (by rw [lit 0, ble _ _ (by omega) (by omega)]; omega)]
      by_cases c : j = i
      · subst c
        have t1 := (hx.t1 hi).mpr hp
        rw [if_neg (by rw [t1]; decide)]
      · have t0 := (hx.t0 hj16).mpr (hl j (by omega) hj16)
        rw [if_pos t0, show nI j + (-1 : Int32) = nI (j - 1) by
          have := pk_m1 (j - 1)
          rw [show j - 1 + 1 = j by omega] at this
          exact this]
        exact ih (j - 1) (by omega) (by omega) (by omega)
theorem highest_ok {x : Int32} {p : Nat → Bool} (hx : msk x p) {i : Nat} (hi : i < 16) (hp : p i = true) (hl : ∀ j, i < j → j < 16 → p j = false) : xt_X3_highest x = some (nI i) :=
  highest_j hx hi hp hl 10000 15 (by omega) (by omega) (by omega)
/-! a set of one, or two -/
theorem pcS0 {n : Nat} : ∀ {k : Nat}, pcS n k = 0 → ∀ i, i < k → n.testBit i = false
  | 0, _, i, hi => absurd hi (by omega)
  | k + 1, h, i, hi => by
    have h' : pcS n k + (if n.testBit k then 1 else 0) = 0 := h
    by_cases c : i = k
    · subst c
      cases e : n.testBit i
      · rfl
      · rw [e, if_pos rfl] at h'; omega
    · exact pcS0 (k := k) (by omega) i (by omega)
theorem pcS1 {n : Nat} : ∀ {k : Nat}, pcS n k = 1 → ∃ i, i < k ∧ n.testBit i = true ∧ ∀ j, j < k → j ≠ i → n.testBit j = false
  | 0, h => by have h' : (0 : Nat) = 1 := h; omega
  | k + 1, h => by
    have h' : pcS n k + (if n.testBit k then 1 else 0) = 1 := h
    cases e : n.testBit k
    · rw [e, if_neg (by decide)] at h'
      obtain ⟨i, h1, h2, h3⟩ := pcS1 (k := k) (by omega)
      refine ⟨i, by omega, h2, fun j hj hne => ?_⟩
      by_cases c : j = k
      · rw [c]; exact e
      · exact h3 j (by omega) hne
    · rw [e, if_pos rfl] at h'
      have z := pcS0 (n := n) (k := k) (by omega)
      exact ⟨k, by omega, e, fun j hj hne => z j (by omega)⟩
theorem pcS2 {n : Nat} : ∀ {k : Nat}, pcS n k = 2 → ∃ a b, a < b ∧ b < k ∧ n.testBit a = true ∧ n.testBit b = true ∧ ∀ j, j < k → j ≠ a → j ≠ b → n.testBit j = false
  | 0, h => by have h' : (0 : Nat) = 2 := h; omega
  | k + 1, h => by
    have h' : pcS n k + (if n.testBit k then 1 else 0) = 2 := h
    cases e : n.testBit k
    · rw [e, if_neg (by decide)] at h'
      obtain ⟨a, b, h1, h2, h3, h4, h5⟩ := pcS2 (k := k) (by omega)
      refine ⟨a, b, h1, by omega, h3, h4, fun j hj n1 n2 => ?_⟩
      by_cases c : j = k
      · rw [c]; exact e
      · exact h5 j (by omega) n1 n2
    · rw [e, if_pos rfl] at h'
      obtain ⟨i, h1, h2, h3⟩ := pcS1 (n := n) (k := k) (by omega)
      exact ⟨i, k, h1, by omega, h2, e, fun j hj n1 n2 => h3 j (by omega) n1⟩
