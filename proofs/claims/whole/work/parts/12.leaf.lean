/-! ===== leaves ===== -/
def bI (b : Bool) : Int32 := if b then 1 else 0
theorem bAll_e2 {a b : Nat} {p : Nat → Bool} (h : bAll a (fun i => bAll b (fun j => p (b * i + j))) = true) {n : Nat} (hn : n < a * b) : p n = true := by
  have hb : 0 < b := by rcases Nat.eq_zero_or_pos b with e | e; (subst e; simp at hn); exact e
  have h1 : n / b < a := Nat.div_lt_of_lt_mul (by rw [Nat.mul_comm]; exact hn)
  have h2 := bAll_e (bAll_e h h1) (Nat.mod_lt n hb)
  rwa [Nat.div_add_mod] at h2
theorem lohi {p : Nat} (h : p < 120) : loP p < hiP p ∧ hiP p < 16 ∧ prN (loP p) (hiP p) = p := by
  have := bAll_e pr_chk h
  simpa using this
theorem pr_lohi {a b : Nat} (ha : a < 16) (hb : b < 16) (e : a ≠ b) : prN a b < 120 ∧ loP (prN a b) = min a b ∧ hiP (prN a b) = max a b := by
  have := bAll_e (bAll_e pr_chk2 ha) hb
  simpa [e] using this
theorem prN_comm (a b : Nat) : prN a b = prN b a := by unfold prN; rw [Nat.min_comm, Nat.max_comm]
def GE (m : Mem) : Prop := ∀ r, 2 ≤ r → r ≤ 8 → m r = gG r
def PE (m : Mem) : Prop := m 36 = gM 36 ∧ m 37 = gM 37
theorem g2 {m : Mem} (hg : GE m) {a : Nat} (h : a < 16) : msk (m 2 a) (fun i => decide (farN a i = 1)) := fun i hi => by
  rw [hg 2 (by omega) (by omega)]
  have := bAll_e (bAll_e gG_chk h) hi
  simp only [Bool.and_eq_true, beq_iff_eq] at this
  exact this.1
theorem g3 {m : Mem} (hg : GE m) {a : Nat} (h : a < 16) : msk (m 3 a) (fun i => decide (rowD a i = 1) && decide (colD a i = 1)) := fun i hi => by
  rw [hg 3 (by omega) (by omega)]
  have := bAll_e (bAll_e gG_chk h) hi
  simp only [Bool.and_eq_true, beq_iff_eq] at this
  exact this.2
theorem g4 {m : Mem} (hg : GE m) {a b : Nat} (ha : a < 16) (hb : b < 16) (e : a ≠ b) : m 4 (16 * a + b) = nI (prN a b) := by
  rw [hg 4 (by omega) (by omega)]
  have := bAll_e (bAll_e gG_chk2 ha) hb
  simpa [e] using this
theorem g5 {m : Mem} (hg : GE m) {p : Nat} (h : p < 120) : m 5 p = nI (loP p) := by
  rw [hg 5 (by omega) (by omega)]
  have := bAll_e gG_chk3 h
  simp only [Bool.and_eq_true, beq_iff_eq] at this
  exact this.1
theorem g6 {m : Mem} (hg : GE m) {p : Nat} (h : p < 120) : m 6 p = nI (hiP p) := by
  rw [hg 6 (by omega) (by omega)]
  have := bAll_e gG_chk3 h
  simp only [Bool.and_eq_true, beq_iff_eq] at this
  exact this.2.1
theorem g7 {m : Mem} (hg : GE m) {p : Nat} (h : p < 120) : msk (m 7 p) (fun i => decide (i = loP p) || decide (i = hiP p)) := fun i hi => by
  rw [hg 7 (by omega) (by omega)]
  have := bAll_e gG_chk3 h
  simp only [Bool.and_eq_true, beq_iff_eq] at this
  have := bAll_e this.2.2 hi
  simpa using this
theorem g8 {m : Mem} (hg : GE m) {t a : Nat} (ht : t < 8) (ha : a < 16) : m 8 (16 * t + a) = nI (imgN t a) := by
  rw [hg 8 (by omega) (by omega)]
  have := bAll_e (bAll_e gG_chk4 ht) ha
  simpa using this
theorem gp {m : Mem} (hp : PE m) {p : Nat} (h : p < 120) : m 36 p = nI (loP p) ∧ m 37 p = nI (hiP p) := by
  rw [hp.1, hp.2]
  have := bAll_e gM_chk h
  simp only [Bool.and_eq_true, beq_iff_eq] at this
  exact this
theorem xin {x : Int32} {n N : Nat} (e : x = nI n) (h : n < N) (hN : N < 2 ^ 31) : vp_in x N := by rw [e]; exact vp_in_nI h hN
theorem and15 {n : Nat} (h : n < 16) : nI n &&& (15 : Int32) = nI n := by
  have := pk_andN (n := n) (by omega) (m := 15) 4 rfl
  rw [this, Nat.mod_eq_of_lt (by omega)]
theorem and127 {n : Nat} (h : n < 128) : nI n &&& (127 : Int32) = nI n := by
  have := pk_andN (n := n) (by omega) (m := 127) 7 rfl
  rw [this, Nat.mod_eq_of_lt (by omega)]
theorem and7 {n : Nat} (h : n < 8) : nI n &&& (7 : Int32) = nI n := by
  have := pk_andN (n := n) (by omega) (m := 7) 3 rfl
  rw [this, Nat.mod_eq_of_lt (by omega)]
theorem far_chk : bAll 16 (fun a => bAll 16 (fun b => xt_X3_far (nI a) (nI b) == some (nI (farN a b)))) = true := by decide +kernel
theorem far_ok {a b : Nat} (ha : a < 16) (hb : b < 16) : xt_X3_far (nI a) (nI b) = some (nI (farN a b)) := by
  have := bAll_e (bAll_e far_chk ha) hb
  simpa using this
theorem stepsFrom_ok {m : Mem} (hg : GE m) {f : Nat} (hf : f < 16) (c : Bool) : ∃ x, xt_X3_stepsFrom (nI f) (bI c) m = some x ∧ msk x (stp c f) := by
  unfold xt_X3_stepsFrom
  have hv : vp_in (nI f) 16 := xin rfl hf (by decide)
  simp only [and15 hf, xgd_in hv, cl (show f < 2 ^ 31 by omega)]
  cases c
  · exact ⟨_, if_pos rfl, (g2 hg hf).congr (fun i _ => by simp [stp])⟩
  · exact ⟨_, if_neg (show ¬ bI true = 0 by decide), ((g2 hg hf).or (g3 hg hf)).congr (fun i _ => by simp [stp])⟩
theorem pairOf_ok {m : Mem} (hg : GE m) {a b : Nat} (ha : a < 16) (hb : b < 16) (e : a ≠ b) : xt_X3_pairOf (nI a) (nI b) m = some (nI (prN a b)) := by
  unfold xt_X3_pairOf
  rw [and15 ha, and15 hb, lit 16, pk_mul, nI_add, xgd_in (xin rfl (by omega) (by decide)), cl (by omega), Nat.mul_comm, g4 hg ha hb e]
theorem lowerOf_ok {m : Mem} (hg : GE m) {p : Nat} (h : p < 120) : xt_X3_lowerOf (nI p) m = some (nI (loP p)) := by
  unfold xt_X3_lowerOf
  rw [and127 (by omega), xgd_in (xin rfl (by omega) (by decide)), cl (by omega), g5 hg h]
theorem higherOf_ok {m : Mem} (hg : GE m) {p : Nat} (h : p < 120) : xt_X3_higherOf (nI p) m = some (nI (hiP p)) := by
  unfold xt_X3_higherOf
  rw [and127 (by omega), xgd_in (xin rfl (by omega) (by decide)), cl (by omega), g6 hg h]
theorem placesOf_ok {m : Mem} (hg : GE m) {p : Nat} (h : p < 120) : ∃ x, xt_X3_placesOf (nI p) m = some x ∧ msk x (fun i => decide (i = loP p) || decide (i = hiP p)) := by
  unfold xt_X3_placesOf
  rw [and127 (by omega), xgd_in (xin rfl (by omega) (by decide)), cl (by omega)]
  exact ⟨_, rfl, g7 hg h⟩
theorem placesOf_any (m : Mem) {p : Nat} (h : p < 128) : ∃ x, xt_X3_placesOf (nI p) m = some x := by
  unfold xt_X3_placesOf
  rw [and127 (by omega), xgd_in (xin rfl (by omega) (by decide))]
  exact ⟨_, rfl⟩
theorem image_ok {m : Mem} (hg : GE m) {t a : Nat} (ht : t < 8) (ha : a < 16) : xt_X3_image (nI t) (nI a) m = some (nI (imgN t a)) := by
  unfold xt_X3_image
  rw [and7 ht, and15 ha, lit 16, pk_mul, nI_add, xgd_in (xin rfl (by omega) (by decide)), cl (by omega), Nat.mul_comm, g8 hg ht ha]
theorem numberOf_ok {m : Mem} (hg : GE m) (w f : Nat) {a b : Nat} (ha : a < 16) (hb : b < 16) (e : a ≠ b) : xt_X3_numberOf (nI w) (nI f) (nI a) (nI b) m = some (nI (2048 * w + 128 * f + prN a b)) := by
  unfold xt_X3_numberOf
  rw [pairOf_ok hg ha hb e, Option.bind_some, lit 2048, lit 128, pk_mul, pk_mul, nI_add, nI_add]
def numP (n : Nat) : Bool := xt_X3_whoOf (nI n) == some (nI (n / 2048)) && (xt_X3_foxOf (nI n) == some (nI (n / 128 % 16)) && xt_X3_pairIn (nI n) == some (nI (n % 128)))
theorem num_chk : bAll 64 (fun i => bAll 64 (fun j => numP (64 * i + j))) = true := by decide +kernel
theorem whoOf_ok {n : Nat} (h : n < 4096) : xt_X3_whoOf (nI n) = some (nI (n / 2048)) := by
  have := bAll_e2 (p := numP) num_chk h
  simp only [numP, Bool.and_eq_true, beq_iff_eq] at this
  exact this.1
theorem foxOf_ok {n : Nat} (h : n < 4096) : xt_X3_foxOf (nI n) = some (nI (n / 128 % 16)) := by
  have := bAll_e2 (p := numP) num_chk h
  simp only [numP, Bool.and_eq_true, beq_iff_eq] at this
  exact this.2.1
theorem pairIn_ok {n : Nat} (h : n < 4096) : xt_X3_pairIn (nI n) = some (nI (n % 128)) := by
  have := bAll_e2 (p := numP) num_chk h
  simp only [numP, Bool.and_eq_true, beq_iff_eq] at this
  exact this.2.2
theorem bI_if (b : Bool) : (if b = true then some (1 : Int32) else some 0) = some (bI b) := by cases b <;> rfl
theorem isPosition_ok {m : Mem} (hg : GE m) {n B : Nat} (h : n < 4096) {x : Int32} (hB : msk x (fun i => B.testBit i)) : xt_X3_isPosition (nI n) x m = some (bI (isPos B n)) := by
  unfold xt_X3_isPosition
  rw [pairIn_ok h, Option.bind_some, foxOf_ok h, Option.bind_some]
  have hf : n / 128 % 16 < 16 := Nat.mod_lt _ (by omega)
  have hp : n % 128 < 128 := Nat.mod_lt _ (by omega)
  by_cases h1 : n % 128 < 120
  · obtain ⟨y, hy, hm⟩ := placesOf_ok hg h1
    rw [hy, Option.bind_some, lit 120, if_neg (by rw [ble _ _ (by omega) (by omega)]; omega)]
    have q1 := ((msk_1 hf).and hm).z
    have q2 := (((msk_1 hf).or hm).and hB).z
    have hlt := lohi h1
    by_cases c1 : ((1 : Int32) <<< (nI (n / 128 % 16) &&& 31)) &&& y = 0
    · rw [if_pos c1]
      have r1 := q1.mp c1 _ hf
      simp at r1
      by_cases c2 : (((1 : Int32) <<< (nI (n / 128 % 16) &&& 31)) ||| y) &&& x = 0
      · rw [if_pos c2]
        have r2 := q2.mp c2
        have e1 := r2 _ hf
        have e2 := r2 (loP (n % 128)) (by omega)
        have e3 := r2 (hiP (n % 128)) (by omega)
        simp at e1 e2 e3
        simp [isPos, bfr, h, h1, e1, e2, e3, r1, bI]
      · rw [if_neg c2]
        have hne : isPos B n = false := by
          rw [Bool.eq_false_iff]
          intro hc
          apply c2
          rw [q2]
          intro i hi
          simp [isPos, bfr, h, h1] at hc
          obtain ⟨a1, a2, a3, a4, a5⟩ := hc
          simp only [Bool.and_eq_false_iff, Bool.or_eq_false_iff, decide_eq_false_iff_not]
          by_cases z : i = n / 128 % 16 ∨ i = loP (n % 128) ∨ i = hiP (n % 128)
          · right
            rcases z with z | z | z <;> rw [z] <;> assumption
          · left
            exact ⟨fun z2 => z (Or.inl z2), fun z2 => z (Or.inr (Or.inl z2)), fun z2 => z (Or.inr (Or.inr z2))⟩
        rw [hne]; rfl
    · rw [if_neg c1]
      have hne : isPos B n = false := by
        rw [Bool.eq_false_iff]
        intro hc
        apply c1
        rw [q1]
        intro i hi
        simp [isPos, bfr, h, h1] at hc
        obtain ⟨a1, a2, a3, a4, a5⟩ := hc
        simp only [Bool.and_eq_false_iff, Bool.or_eq_false_iff, decide_eq_false_iff_not]
        by_cases z : i = n / 128 % 16
        · right; subst z; exact ⟨a4, a5⟩
        · left; exact z
      rw [hne]; rfl
  · obtain ⟨y, hy⟩ := placesOf_any m hp
    rw [hy, Option.bind_some, lit 120, if_pos (by rw [ble _ _ (by omega) (by omega)]; omega)]
    have hne : isPos B n = false := by simp [isPos, h1]
    rw [hne]; rfl
