/-! ===== how many bits ===== -/
theorem nand (a b : Nat) : nI a &&& nI b = nI (a &&& b) := by
  apply b_ext
  intro i hi
  rw [b_and, b_nI _ hi, b_nI _ hi, b_nI _ hi, Nat.testBit_and]
theorem nxor (a b : Nat) : nI a ^^^ nI b = nI (a ^^^ b) := by
  apply b_ext
  intro i hi
  rw [b_xor, b_nI _ hi, b_nI _ hi, b_nI _ hi, Nat.testBit_xor]
def bcA (n : Nat) : Nat := n - ((n / 2) &&& 1431655765)
def bcB (a : Nat) : Nat := (a &&& 858993459) + ((a / 4) &&& 858993459)
def bcC (b : Nat) : Nat := (b + b / 16) &&& 252645135
def bcD (c : Nat) : Nat := c + c / 256
def bcE (d : Nat) : Nat := (d + d / 65536) &&& 63
theorem u1 {n : Nat} (h : n < 2 ^ 32) : ((nI n).toUInt32 >>> ((1 : Int32).toUInt32 &&& Int32.toUInt32 31)).toInt32 = nI (n / 2) := pk_ushrN h 1 1 (by decide)
theorem u2 {n : Nat} (h : n < 2 ^ 32) : ((nI n).toUInt32 >>> ((2 : Int32).toUInt32 &&& Int32.toUInt32 31)).toInt32 = nI (n / 4) := pk_ushrN h 2 2 (by decide)
theorem u4 {n : Nat} (h : n < 2 ^ 32) : ((nI n).toUInt32 >>> ((4 : Int32).toUInt32 &&& Int32.toUInt32 31)).toInt32 = nI (n / 16) := pk_ushrN h 4 4 (by decide)
theorem u8 {n : Nat} (h : n < 2 ^ 32) : ((nI n).toUInt32 >>> ((8 : Int32).toUInt32 &&& Int32.toUInt32 31)).toInt32 = nI (n / 256) := pk_ushrN h 8 8 (by decide)
theorem u16 {n : Nat} (h : n < 2 ^ 32) : ((nI n).toUInt32 >>> ((16 : Int32).toUInt32 &&& Int32.toUInt32 31)).toInt32 = nI (n / 65536) := pk_ushrN h 16 16 (by decide)
theorem bc_form {n : Nat} (h : n < 65536) : xt_J6_bitCount_0f7a4 (nI n) = some (nI (bcE (bcD (bcC (bcB (bcA n)))))) := by
  unfold xt_J6_bitCount_0f7a4
  have a0 : (n / 2 &&& 1431655765) ≤ n / 2 := Nat.and_le_left
  have eA : nI n - (((nI n).toUInt32 >>> ((1 : Int32).toUInt32 &&& Int32.toUInt32 31)).toInt32 &&& (1431655765 : Int32)) = nI (bcA n) := by
    rw [u1 (by omega), lit 1431655765, nand, pk_sub (by omega)]; rfl
  have hA : bcA n ≤ n := Nat.sub_le _ _
  rw [eA]
  have eB : (nI (bcA n) &&& (858993459 : Int32)) + (((nI (bcA n)).toUInt32 >>> ((2 : Int32).toUInt32 &&& Int32.toUInt32 31)).toInt32 &&& (858993459 : Int32)) = nI (bcB (bcA n)) := by
    rw [u2 (by omega), lit 858993459, nand, nand, nI_add]; rfl
  have hB : bcB (bcA n) ≤ 2 * n := by
    have b1 : (bcA n &&& 858993459) ≤ bcA n := Nat.and_le_left
    have b2 : (bcA n / 4 &&& 858993459) ≤ bcA n / 4 := Nat.and_le_left
    unfold bcB; omega
  rw [eB]
  have eC : (nI (bcB (bcA n)) + ((nI (bcB (bcA n))).toUInt32 >>> ((4 : Int32).toUInt32 &&& Int32.toUInt32 31)).toInt32) &&& (252645135 : Int32) = nI (bcC (bcB (bcA n))) := by
    rw [u4 (by omega), lit 252645135, nI_add, nand]; rfl
  have hC : bcC (bcB (bcA n)) ≤ 4 * n := by
    have b1 : (bcB (bcA n) + bcB (bcA n) / 16 &&& 252645135) ≤ bcB (bcA n) + bcB (bcA n) / 16 := Nat.and_le_left
    unfold bcC; omega
  rw [eC]
  have eD : nI (bcC (bcB (bcA n))) + ((nI (bcC (bcB (bcA n)))).toUInt32 >>> ((8 : Int32).toUInt32 &&& Int32.toUInt32 31)).toInt32 = nI (bcD (bcC (bcB (bcA n)))) := by
    rw [u8 (by omega), nI_add]; rfl
  have hD : bcD (bcC (bcB (bcA n))) ≤ 8 * n := by unfold bcD; omega
  rw [eD, u16 (by omega), nI_add, lit 63, nand]
  rfl
def pcF (n : Nat) : Nat := n / 1 % 2 + n / 2 % 2 + n / 4 % 2 + n / 8 % 2 + n / 16 % 2 + n / 32 % 2 + n / 64 % 2 + n / 128 % 2 + n / 256 % 2 + n / 512 % 2 + n / 1024 % 2 + n / 2048 % 2 + n / 4096 % 2 + n / 8192 % 2 + n / 16384 % 2 + n / 32768 % 2
theorem tbm (n i d : Nat) (hd : 2 ^ i = d) : (if n.testBit i = true then 1 else 0) = n / d % 2 := by
  rw [Nat.testBit_eq_decide_div_mod_eq, hd]
  have : n / d % 2 = 0 ∨ n / d % 2 = 1 := by omega
  rcases this with e | e <;> rw [e] <;> rfl
theorem pcF_eq (n : Nat) : pcB n = pcF n := by
  have e : pcB n = (0 + (if n.testBit 0 = true then 1 else 0)) + (if n.testBit 1 = true then 1 else 0) + (if n.testBit 2 = true then 1 else 0) + (if n.testBit 3 = true then 1 else 0) + (if n.testBit 4 = true then 1 else 0) + (if n.testBit 5 = true then 1 else 0) + (if n.testBit 6 = true then 1 else 0) + (if n.testBit 7 = true then 1 else 0) + (if n.testBit 8 = true then 1 else 0) + (if n.testBit 9 = true then 1 else 0) + (if n.testBit 10 = true then 1 else 0) + (if n.testBit 11 = true then 1 else 0) + (if n.testBit 12 = true then 1 else 0) + (if n.testBit 13 = true then 1 else 0) + (if n.testBit 14 = true then 1 else 0) + (if n.testBit 15 = true then 1 else 0) := rfl
  rw [e, tbm n 0 1 rfl, tbm n 1 2 rfl, tbm n 2 4 rfl, tbm n 3 8 rfl, tbm n 4 16 rfl, tbm n 5 32 rfl, tbm n 6 64 rfl, tbm n 7 128 rfl, tbm n 8 256 rfl, tbm n 9 512 rfl, tbm n 10 1024 rfl, tbm n 11 2048 rfl, tbm n 12 4096 rfl, tbm n 13 8192 rfl, tbm n 14 16384 rfl, tbm n 15 32768 rfl, Nat.zero_add]
  rfl
def bcP (n : Nat) : Bool := Nat.beq (bcE (bcD (bcC (bcB (bcA n))))) (pcF n)
theorem bc_chk : bAll 256 (fun i => bAll 256 (fun j => bcP (256 * i + j))) = true := by decide +kernel
theorem bitCount_ok {n : Nat} (h : n < 65536) : xt_J6_bitCount_0f7a4 (nI n) = some (nI (pcB n)) := by
  have := bAll_e2 (p := bcP) bc_chk h
  unfold bcP at this
  rw [bc_form h, Nat.eq_of_beq_eq_true this, pcF_eq]
def pcS (n : Nat) : Nat → Nat
  | 0 => 0
  | k + 1 => pcS n k + (if n.testBit k then 1 else 0)
theorem pcS_16 (n : Nat) : pcS n 16 = pcB n := rfl
theorem bit_val {n : Nat} (h : n < 65536) {k : Nat} (hk : k < 16) : ((nI n >>> (nI k &&& 31)) &&& (1 : Int32)) = nI (if n.testBit k then 1 else 0) := by
  cases e : n.testBit k
  · rw [((msk_nI h).t0 hk).mpr e]; rfl
  · rw [((msk_nI h).t1 hk).mpr e]; rfl
theorem many_ok {n : Nat} (h : n < 65536) : xt_X9_many (nI n) = some (nI (pcB n)) := by
  unfold xt_X9_many
  have key := lup (fun j (q : Int32) v => xt_X9_many_l4 (nI n) (fun (v1_1 : Int32) => (some v1_1)) j q v) (fun q => some q) 16
    (fun i q => q = nI (pcS n i))
    (fun j q _ => by
      show xt_X9_many_l4 _ _ (j + 1) q (nI 16) = _
      rw [xt_X9_many_l4, if_pos (show (16 : Int32) ≤ nI 16 by decide)])
    (fun j i q hi hI => by
      show ∃ s', _ ∧ xt_X9_many_l4 _ _ (j + 1) q (nI i) = _
      rw [xt_X9_many_l4, lit 16, if_neg (by rw [ble _ _ (by omega) (by omega)]; omega), nI_1, hI, bit_val h hi, nI_add]
      exact ⟨_, rfl, rfl⟩)
    10000 0 0 (by omega) (by omega) rfl
  obtain ⟨q, h1, h2⟩ := key
  have h2' : xt_X9_many_l4 (nI n) _ 10000 (0 : Int32) (0 : Int32) = _ := h2
  rw [h2', h1, pcS_16]
theorem pcB_le (n : Nat) : pcB n ≤ 16 := by rw [pcF_eq]; unfold pcF; omega
