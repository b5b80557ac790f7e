/-! ===== the reference's leaves ===== -/
theorem isStep_chk : bAll 16 (fun a => bAll 16 (fun b => xt_X9_isStep (nI a) (nI b) 1 == some (bI (stp true a b)) && xt_X9_isStep (nI a) (nI b) 0 == some (bI (stp false a b)))) = true := by decide +kernel
theorem isStep_ok {a b : Nat} (ha : a < 16) (hb : b < 16) (c : Bool) : xt_X9_isStep (nI a) (nI b) (bI c) = some (bI (stp c a b)) := by
  have := bAll_e (bAll_e isStep_chk ha) hb
  simp only [Bool.and_eq_true, beq_iff_eq] at this
  cases c
  · exact this.2
  · exact this.1
theorem mpair_chk : bAll 16 (fun a => bAll 16 (fun b => a == b || xt_X9_pair (nI a) (nI b) == some (nI (prN a b)))) = true := by decide +kernel
theorem mpair_ok {a b : Nat} (ha : a < 16) (hb : b < 16) (e : a ≠ b) : xt_X9_pair (nI a) (nI b) = some (nI (prN a b)) := by
  have := bAll_e (bAll_e mpair_chk ha) hb
  simpa [e] using this
theorem mnumberOf_ok (w f : Nat) {a b : Nat} (ha : a < 16) (hb : b < 16) (e : a ≠ b) : xt_X9_numberOf (nI w) (nI f) (nI a) (nI b) = some (nI (2048 * w + 128 * f + prN a b)) := by
  unfold xt_X9_numberOf
  rw [mpair_ok ha hb e, Option.bind_some, lit 2048, lit 128, pk_mul, pk_mul, nI_add, nI_add]
/-- the settings and blocked places that the reference has -/
def MA (m : Mem) (g : Nat → Nat) : Prop := ∀ k, k < 4 → m 32 k = nI (g k)
theorem isFree_ok {m : Mem} {g : Nat → Nat} (ha : MA m g) (hB : g 3 < 65536) {p : Nat} (hp : p < 16) : xt_X9_isFree (nI p) m = some (bI (bfr (g 3) p)) := by
  unfold xt_X9_isFree xt_X9_has
  rw [xgd_in (by unfold vp_in; decide), show (3 : Int32).toNatClampNeg = 3 from rfl, ha 3 (by omega)]
  have := (msk_nI hB).t1 hp
  by_cases c : ((nI (g 3) >>> (nI p &&& 31)) &&& (1 : Int32)) = 1
  · rw [if_pos c, Option.bind_some, if_neg (by decide)]
    simp [bfr, this.mp c, bI]
  · rw [if_neg c, Option.bind_some, if_pos rfl]
    have h2 : (g 3).testBit p = false := by simpa using mt this.mpr c
    simp [bfr, h2, bI]
theorem md128 {n : Nat} (h : n < 4096) : nI n - nI n / (128 : Int32) * (128 : Int32) = nI (n % 128) := pk_rem (d := 128) (by omega) (by omega) (by omega)
theorem dv128 {n : Nat} (h : n < 4096) : nI n / (128 : Int32) = nI (n / 128) := pk_div (d := 128) (by omega) (by omega) (by omega)
theorem md16 {n : Nat} (h : n < 4096) : nI n - nI n / (16 : Int32) * (16 : Int32) = nI (n % 16) := pk_rem (d := 16) (by omega) (by omega) (by omega)
theorem misPosition_ok {m : Mem} {g : Nat → Nat} (hp : PE m) (ha : MA m g) (hB : g 3 < 65536) {n : Nat} (h : n < 4096) : xt_X9_isPosition (nI n) m = some (bI (isPos (g 3) n)) := by
  unfold xt_X9_isPosition
  rw [md128 h, dv128 h, md16 (show n / 128 < 4096 by omega)]
  have hf : n / 128 % 16 < 16 := Nat.mod_lt _ (by omega)
  by_cases h1 : n % 128 < 120
  · have hl := lohi h1
    have hgp := gp hp h1
    have hv : vp_in (nI (n % 128)) 120 := xin rfl h1 (by decide)
    simp only [xgd_in hv, cl (show n % 128 < 2 ^ 31 by omega), hgp.1, hgp.2]
    rw [lit 120, if_neg (by rw [ble _ _ (by omega) (by omega)]; omega), isFree_ok ha hB hf, Option.bind_some, isFree_ok ha hB (show loP (n % 128) < 16 by omega), Option.bind_some, isFree_ok ha hB hl.2.1, Option.bind_some]
    have e1 : nI (loP (n % 128)) = nI (n / 128 % 16) ↔ loP (n % 128) = n / 128 % 16 := nI_eq (by omega) (by omega)
    have e2 : nI (hiP (n % 128)) = nI (n / 128 % 16) ↔ hiP (n % 128) = n / 128 % 16 := nI_eq (by omega) (by omega)
    unfold isPos
    rw [decide_eq_true h, decide_eq_true h1]
    cases z1 : bfr (g 3) (n / 128 % 16)
    · rw [if_pos (by decide)]; rfl
    · rw [if_neg (by decide)]
      by_cases c1 : loP (n % 128) = n / 128 % 16
      · rw [if_pos (e1.mpr c1)]
        rw [decide_eq_false (show ¬ n / 128 % 16 ≠ loP (n % 128) from fun z => z c1.symm)]
        simp [bI]
      · rw [if_neg (fun z => c1 (e1.mp z))]
        by_cases c2 : hiP (n % 128) = n / 128 % 16
        · rw [if_pos (e2.mpr c2)]
          rw [decide_eq_false (show ¬ n / 128 % 16 ≠ hiP (n % 128) from fun z => z c2.symm)]
          simp [bI]
        · rw [if_neg (fun z => c2 (e2.mp z)), decide_eq_true (show n / 128 % 16 ≠ loP (n % 128) from fun z => c1 z.symm), decide_eq_true (show n / 128 % 16 ≠ hiP (n % 128) from fun z => c2 z.symm)]
          cases bfr (g 3) (loP (n % 128)) <;> cases bfr (g 3) (hiP (n % 128)) <;> simp [bI]
  · rw [lit 120, if_pos (by rw [ble _ _ (by omega) (by omega)]; omega)]
    unfold isPos
    rw [decide_eq_false h1]; simp [bI]
theorem bnat {x : Nat} (h : x < 2) : nI x = bI (decide (x = 1)) := by
  have : x = 0 ∨ x = 1 := by omega
  rcases this with e | e <;> subst e <;> rfl
theorem bI1 (b : Bool) : bI b = 1 ↔ b = true := by cases b <;> decide
theorem bI0 (b : Bool) : bI b = 0 ↔ b = false := by cases b <;> decide
theorem canCatch_ok {m : Mem} {g : Nat → Nat} (hp : PE m) (ha : MA m g) (hs : g 0 < 2 ∧ g 1 < 2 ∧ g 2 < 2) {f p : Nat} (hf : f < 16) (h1 : p < 120) : xt_X9_canCatch (nI f) (nI p) m = some (bI (hCatch (sOf g) f p)) := by
  unfold xt_X9_canCatch
  have hv : vp_in (nI p) 120 := xin rfl h1 (by decide)
  have hv1 : vp_in (1 : Int32) 8 := by unfold vp_in; decide
  have hl := lohi h1
  have hgp := gp hp h1
  simp only [xgd_in hv, xgd_in hv1, cl (show p < 2 ^ 31 by omega), hgp.1, hgp.2, show (1 : Int32).toNatClampNeg = 1 from rfl, ha 1 (by omega)]
  unfold hCatch
  rw [(sOf_bits hs).2.1, bnat hs.2.1]
  have a1 := isStep_ok (show loP p < 16 by omega) hf true
  have a2 := isStep_ok (show loP p < 16 by omega) hf false
  have b1 := isStep_ok hl.2.1 hf true
  have b2 := isStep_ok hl.2.1 hf false
  have a1' : xt_X9_isStep (nI (loP p)) (nI f) (1 : Int32) = _ := a1
  have a2' : xt_X9_isStep (nI (loP p)) (nI f) (0 : Int32) = _ := a2
  have b1' : xt_X9_isStep (nI (hiP p)) (nI f) (1 : Int32) = _ := b1
  have b2' : xt_X9_isStep (nI (hiP p)) (nI f) (0 : Int32) = _ := b2
  simp only [a1', a2', b1', b2', Option.bind_some, bI0, bI1]
  cases decide (g 1 = 1) <;> cases stp true (loP p) f <;> cases stp false (loP p) f <;> cases stp true (hiP p) f <;> cases stp false (hiP p) f <;> rfl
/-- the lesser one of two that there may be -/
def omin (a b : Option Nat) : Option Nat := match a, b with
  | none, b => b
  | some x, none => some x
  | some x, some y => some (min x y)
def oLt (a : Option Nat) : Prop := ∀ x, a = some x → x < 2 ^ 30
theorem nearer_ok {a b : Option Nat} (ha : oLt a) (hb : oLt b) : xt_X9_nearer (dI a) (dI b) = some (dI (omin a b)) := by
  unfold xt_X9_nearer xt_X9_lesser
  cases a with
  | none => rw [if_neg (by show ¬ (0 : Int32) ≤ -6; decide)]; cases b <;> rfl
  | some x =>
    have hx := ha x rfl
    rw [if_pos (by show (0 : Int32) ≤ nI x; exact nI_pos' (by omega))]
    cases b with
    | none => rw [if_neg (by show ¬ (0 : Int32) ≤ -6; decide)]; rfl
    | some y =>
      have hy := hb y rfl
      rw [if_pos (by show (0 : Int32) ≤ nI y; exact nI_pos' (by omega))]
      show Option.bind (if nI y ≤ nI x then some (nI y) else some (nI x)) (fun o => some o) = some (nI (min x y))
      by_cases c : y ≤ x
      · rw [if_pos (by rw [ble _ _ (by omega) (by omega)]; exact c), Nat.min_eq_right c]; rfl
      · rw [if_neg (by rw [ble _ _ (by omega) (by omega)]; exact c), Nat.min_eq_left (by omega)]; rfl
theorem greater_ok {x y : Nat} (hx : x < 2 ^ 31) (hy : y < 2 ^ 31) : xt_X9_greater (nI x) (nI y) = some (nI (max x y)) := by
  unfold xt_X9_greater
  by_cases c : x ≤ y
  · rw [if_pos (by rw [ble _ _ hx hy]; exact c), Nat.max_eq_right c]
  · rw [if_neg (by rw [ble _ _ hx hy]; exact c), Nat.max_eq_left (by omega)]
theorem lesser_ok {x y : Nat} (hx : x < 2 ^ 31) (hy : y < 2 ^ 31) : xt_X9_lesser (nI x) (nI y) = some (nI (min x y)) := by
  unfold xt_X9_lesser
  by_cases c : y ≤ x
  · rw [if_pos (by rw [ble _ _ hy hx]; exact c), Nat.min_eq_right c]
  · rw [if_neg (by rw [ble _ _ hy hx]; exact c), Nat.min_eq_left (by omega)]
