/-! ===== Int32 by its bits: bt x i ===== -/
def bt (x : Int32) (i : Nat) : Bool := x.toBitVec.getLsbD i
theorem b_ext {x y : Int32} (h : ∀ i, i < 32 → bt x i = bt y i) : x = y := Int32.toBitVec_inj.mp (BitVec.eq_of_getLsbD_eq (fun i hi => h i hi))
theorem b_or (x y : Int32) (i : Nat) : bt (x ||| y) i = (bt x i || bt y i) := by unfold bt; rw [Int32.toBitVec_or, BitVec.getLsbD_or]
theorem b_and (x y : Int32) (i : Nat) : bt (x &&& y) i = (bt x i && bt y i) := by unfold bt; rw [Int32.toBitVec_and, BitVec.getLsbD_and]
theorem b_xor (x y : Int32) (i : Nat) : bt (x ^^^ y) i = (bt x i ^^ bt y i) := by unfold bt; rw [Int32.toBitVec_xor, BitVec.getLsbD_xor]
theorem b_big {x : Int32} {i : Nat} (h : 32 ≤ i) : bt x i = false := BitVec.getLsbD_of_ge _ _ h
theorem b_255 (i : Nat) : bt 255 i = decide (i < 8) := by
  rcases Nat.lt_or_ge i 32 with h | h
  · exact (by decide +kernel : ∀ i, i < 32 → bt 255 i = decide (i < 8)) i h
  · rw [b_big h, decide_eq_false (by omega)]
theorem b_65535 (i : Nat) : bt 65535 i = decide (i < 16) := by
  rcases Nat.lt_or_ge i 32 with h | h
  · exact (by decide +kernel : ∀ i, i < 32 → bt 65535 i = decide (i < 16)) i h
  · rw [b_big h, decide_eq_false (by omega)]
theorem b_m1 : ∀ i, i < 32 → bt (-1) i = true := by decide +kernel
theorem b_0 (i : Nat) : bt 0 i = false := BitVec.getLsbD_zero
theorem s_l : ∀ n, n < 32 → ((nI n &&& 31).toBitVec.smod 32).toNat = n := by decide +kernel
theorem s_u : ∀ n, n < 32 → (((nI n).toUInt32 &&& Int32.toUInt32 31).toBitVec % 32).toNat = n := by decide +kernel
theorem b_shl (n : Nat) (hn : n < 32) (x : Int32) {i : Nat} (hi : i < 32) : bt (x <<< (nI n &&& 31)) i = (decide (n ≤ i) && bt x (i - n)) := by
  unfold bt
  rw [Int32.toBitVec_shiftLeft]
  show (x.toBitVec <<< ((nI n &&& 31).toBitVec.smod 32).toNat).getLsbD i = _
  rw [s_l n hn, BitVec.getLsbD_shiftLeft]
  rcases Nat.lt_or_ge i n with h | h
  · simp [h, Nat.not_le.mpr h]
  · simp [hi, h, Nat.not_lt.mpr h]
theorem b_ushr (n : Nat) (hn : n < 32) (x : Int32) (i : Nat) : bt ((x.toUInt32 >>> ((nI n).toUInt32 &&& Int32.toUInt32 31)).toInt32) i = bt x (n + i) := by
  show (x.toUInt32 >>> ((nI n).toUInt32 &&& Int32.toUInt32 31)).toBitVec.getLsbD i = x.toUInt32.toBitVec.getLsbD (n + i)
  rw [UInt32.toBitVec_shiftRight]
  show (x.toUInt32.toBitVec >>> (((nI n).toUInt32 &&& Int32.toUInt32 31).toBitVec % 32).toNat).getLsbD i = _
  rw [s_u n hn, BitVec.getLsbD_ushiftRight]
theorem b_sshr (n : Nat) (hn : n < 32) (x : Int32) {i : Nat} (hi : i < 32) : bt (x >>> (nI n &&& 31)) i = if n + i < 32 then bt x (n + i) else bt x 31 := by
  unfold bt
  rw [Int32.toBitVec_shiftRight]
  show (x.toBitVec.sshiftRight ((nI n &&& 31).toBitVec.smod 32).toNat).getLsbD i = _
  rw [s_l n hn, BitVec.getLsbD_sshiftRight, BitVec.msb_eq_getLsbD_last]
  simp [hi]
theorem b_shl8 (x : Int32) {i : Nat} (hi : i < 32) : bt (x <<< ((8 : Int32) &&& 31)) i = (decide (8 ≤ i) && bt x (i - 8)) := b_shl 8 (by omega) x hi
theorem b_shl16 (x : Int32) {i : Nat} (hi : i < 32) : bt (x <<< ((16 : Int32) &&& 31)) i = (decide (16 ≤ i) && bt x (i - 16)) := b_shl 16 (by omega) x hi
theorem b_shl24 (x : Int32) {i : Nat} (hi : i < 32) : bt (x <<< ((24 : Int32) &&& 31)) i = (decide (24 ≤ i) && bt x (i - 24)) := b_shl 24 (by omega) x hi
theorem b_sshr8 (x : Int32) {i : Nat} (hi : i < 32) : bt (x >>> ((8 : Int32) &&& 31)) i = if 8 + i < 32 then bt x (8 + i) else bt x 31 := b_sshr 8 (by omega) x hi
/-! ===== base: numbers, bits, loops ===== -/
theorem lit (n : Nat) : (OfNat.ofNat n : Int32) = nI n := rfl
theorem b_1 (i : Nat) : bt 1 i = decide (i = 0) := by
  rcases Nat.lt_or_ge i 32 with h | h
  · exact (by decide +kernel : ∀ i, i < 32 → bt 1 i = decide (i = 0)) i h
  · rw [b_big h, decide_eq_false (by omega)]
theorem b_nI (n : Nat) {i : Nat} (hi : i < 32) : bt (nI n) i = n.testBit i := by
  show (BitVec.ofNat 32 n).getLsbD i = _
  rw [BitVec.getLsbD_ofNat]
  simp [hi]
theorem b_not (x : Int32) {i : Nat} (hi : i < 32) : bt (x ^^^ (-1)) i = !bt x i := by rw [b_xor, b_m1 i hi]; simp
theorem b_sh1 {j i : Nat} (hj : j < 32) (hi : i < 32) : bt ((1 : Int32) <<< (nI j &&& 31)) i = decide (i = j) := by
  rw [b_shl j hj _ hi, b_1]
  by_cases h : i = j
  · subst h; simp
  · simp [h]; omega
theorem b_shr1 (x : Int32) {j i : Nat} (hj : j < 32) (hi : i < 32) : bt ((x >>> (nI j &&& 31)) &&& 1) i = (decide (i = 0) && bt x j) := by
  rw [b_and, b_1, b_sshr j hj _ hi]
  by_cases h : i = 0
  · subst h; simp [hj]
  · simp [h]
theorem tb0 (x : Int32) {j : Nat} (hj : j < 32) : ((x >>> (nI j &&& 31)) &&& (1 : Int32)) = 0 ↔ bt x j = false := by
  constructor
  · intro h
    have := b_shr1 x hj (i := 0) (by omega)
    rw [h, b_0] at this
    simpa using this.symm
  · intro h
    apply b_ext
    intro i hi
    rw [b_shr1 x hj hi, h, b_0]; simp
theorem tb1 (x : Int32) {j : Nat} (hj : j < 32) : ((x >>> (nI j &&& 31)) &&& (1 : Int32)) = 1 ↔ bt x j = true := by
  constructor
  · intro h
    have := b_shr1 x hj (i := 0) (by omega)
    rw [h, b_1] at this
    simpa using this.symm
  · intro h
    apply b_ext
    intro i hi
    rw [b_shr1 x hj hi, h, b_1]; simp
theorem band0 (x y : Int32) : x &&& y = 0 ↔ ∀ i, i < 32 → (bt x i && bt y i) = false := by
  constructor
  · intro h i _
    rw [← b_and, h, b_0]
  · intro h
    apply b_ext
    intro i hi
    rw [b_and, h i hi, b_0]
theorem beq0 (x : Int32) : x = 0 ↔ ∀ i, i < 32 → bt x i = false := by
  constructor
  · intro h i _; rw [h, b_0]
  · intro h; apply b_ext; intro i hi; rw [h i hi, b_0]
/-- x is the set of the places that p tells -/
def msk (x : Int32) (p : Nat → Bool) : Prop := ∀ i, i < 32 → bt x i = (decide (i < 16) && p i)
theorem msk.at {x : Int32} {p : Nat → Bool} (h : msk x p) {i : Nat} (hi : i < 16) : bt x i = p i := by rw [h i (by omega)]; simp [hi]
theorem msk.eq {x y : Int32} {p : Nat → Bool} (h : msk x p) (h2 : msk y p) : x = y := b_ext (fun i hi => by rw [h i hi, h2 i hi])
theorem msk.congr {x : Int32} {p q : Nat → Bool} (h : msk x p) (e : ∀ i, i < 16 → p i = q i) : msk x q := fun i hi => by
  rw [h i hi]
  by_cases h16 : i < 16
  · rw [e i h16]
  · simp [h16]
theorem msk.ext {x y : Int32} {p q : Nat → Bool} (h : msk x p) (h2 : msk y q) : x = y ↔ ∀ i, i < 16 → p i = q i := by
  constructor
  · intro e i hi
    rw [← h.at hi, ← h2.at hi, e]
  · intro e
    exact (h.congr e).eq h2
theorem msk_0 : msk 0 (fun _ => false) := fun i _ => by rw [b_0]; simp
theorem msk.or {x y : Int32} {p q : Nat → Bool} (h : msk x p) (h2 : msk y q) : msk (x ||| y) (fun i => p i || q i) := fun i hi => by
  rw [b_or, h i hi, h2 i hi]
  cases decide (i < 16) <;> simp
theorem msk.and {x y : Int32} {p q : Nat → Bool} (h : msk x p) (h2 : msk y q) : msk (x &&& y) (fun i => p i && q i) := fun i hi => by
  rw [b_and, h i hi, h2 i hi]
  cases decide (i < 16) <;> simp
theorem msk.andn {x y : Int32} {p q : Nat → Bool} (h : msk x p) (h2 : msk y q) : msk (x &&& (y ^^^ (-1))) (fun i => p i && !q i) := fun i hi => by
  rw [b_and, b_not _ hi, h i hi, h2 i hi]
  cases decide (i < 16) <;> simp
theorem msk_1 {j : Nat} (hj : j < 16) : msk ((1 : Int32) <<< (nI j &&& 31)) (fun i => decide (i = j)) := fun i hi => by
  rw [b_sh1 (by omega) hi]
  by_cases h : i = j
  · subst h; simp [hj]
  · simp [h]
theorem msk.z {x : Int32} {p : Nat → Bool} (h : msk x p) : x = 0 ↔ ∀ i, i < 16 → p i = false := by
  rw [h.ext msk_0]
theorem msk_nI {n : Nat} (hn : n < 65536) : msk (nI n) (fun i => n.testBit i) := fun i hi => by
  rw [b_nI n hi]
  by_cases h : i < 16
  · simp [h]
  · have : n.testBit i = false := Nat.testBit_lt_two_pow (Nat.lt_of_lt_of_le hn (by have := Nat.pow_le_pow_right (n := 2) (by omega) (Nat.not_lt.mp h); simpa using this))
    simp [h, this]
theorem msk_full : msk (65535 : Int32) (fun _ => true) := fun i _ => by rw [b_65535]; simp
theorem msk.t0 {x : Int32} {p : Nat → Bool} (h : msk x p) {j : Nat} (hj : j < 16) : ((x >>> (nI j &&& 31)) &&& (1 : Int32)) = 0 ↔ p j = false := by rw [tb0 x (by omega), h.at hj]
theorem msk.t1 {x : Int32} {p : Nat → Bool} (h : msk x p) {j : Nat} (hj : j < 16) : ((x >>> (nI j &&& 31)) &&& (1 : Int32)) = 1 ↔ p j = true := by rw [tb1 x (by omega), h.at hj]
/-- a loop that counts up: by what holds at its head -/
theorem lup {σ ρ : Type} (f : Nat → σ → Int32 → Option ρ) (k : σ → Option ρ) (N : Nat) (I : Nat → σ → Prop)
    (hx : ∀ n s, I N s → f (n + 1) s (nI N) = k s) (hs : ∀ n i s, i < N → I i s → ∃ s', I (i + 1) s' ∧ f (n + 1) s (nI i) = f n s' (nI (i + 1))) :
    ∀ (n i : Nat) (s : σ), i ≤ N → N - i < n → I i s → ∃ s', I N s' ∧ f n s (nI i) = k s' := by
  intro n
  induction n with
  | zero => intro i s _ h; omega
  | succ n ih =>
    intro i s hi hn hI
    rcases Nat.lt_or_ge i N with h | h
    · obtain ⟨s', h1, h2⟩ := hs n i s h hI
      obtain ⟨s2, h3, h4⟩ := ih (i + 1) s' h (by omega) h1
      exact ⟨s2, h3, by rw [h2, h4]⟩
    · have e : i = N := by omega
      subst e
      exact ⟨s, hI, hx n s hI⟩
theorem ble (a b : Nat) (ha : a < 2 ^ 31) (hb : b < 2 ^ 31) : nI a ≤ nI b ↔ a ≤ b := nI_leI ha hb
theorem mset_s (h : Mem) (r : Nat) (f : Nat → Int32) : mset h r f r = f := if_pos rfl
theorem mset_n (h : Mem) {r j : Nat} (f : Nat → Int32) (e : j ≠ r) : mset h r f j = h j := if_neg e
theorem mgs_i (h : Mem) {l : List Nat} (g : Mem) {j : Nat} (e : l.contains j = true) : mgs h l g j = g j := if_pos e
theorem mgs_o (h : Mem) {l : List Nat} (g : Mem) {j : Nat} (e : l.contains j = false) : mgs h l g j = h j := if_neg (by rw [e]; decide)
theorem cl {n : Nat} (h : n < 2 ^ 31) : (nI n).toNatClampNeg = n := nI_clamp h
