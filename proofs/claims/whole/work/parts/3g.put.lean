/-! ===== characters put on the pad ===== -/
theorem lgz (x : Int64) : lg_cmp x 0 = 0 ↔ x = 0 := by
  show (if x > 0 then (1 : Int32) else if x = 0 then 0 else -1) = 0 ↔ x = 0
  by_cases c : x > 0
  · rw [if_pos c]
    constructor
    · intro h; exact absurd h (by decide)
    · intro h; rw [h] at c; exact absurd c (by decide)
  · rw [if_neg c]
    by_cases c2 : x = 0
    · rw [if_pos c2]; exact ⟨fun _ => c2, fun _ => rfl⟩
    · rw [if_neg c2]
      exact ⟨fun h => absurd h (by decide), fun h => absurd h c2⟩
def lt64 (x : Int64) (i : Nat) : Bool := x.toBitVec.getLsbD i
theorem l255 : ∀ i, i < 64 → lt64 255 i = decide (i < 8) := by decide +kernel
theorem l_m8 : ((((8 : Int32).toInt64.toUInt64 &&& Int64.toUInt64 63)).toBitVec % 64).toNat = 8 := by decide
def sh8 (r : Int64) : Int64 := (r.toUInt64 >>> ((8 : Int32).toInt64.toUInt64 &&& Int64.toUInt64 63)).toInt64
theorem sh8_n (r : Int64) : (sh8 r).toBitVec.toNat = r.toBitVec.toNat / 256 := by
  show (r.toUInt64 >>> ((8 : Int32).toInt64.toUInt64 &&& Int64.toUInt64 63)).toBitVec.toNat = _
  rw [UInt64.toBitVec_shiftRight]
  show (r.toUInt64.toBitVec >>> (((8 : Int32).toInt64.toUInt64 &&& Int64.toUInt64 63).toBitVec % 64).toNat).toNat = _
  rw [l_m8, BitVec.toNat_ushiftRight, Nat.shiftRight_eq_div_pow]
  rfl
theorem z64 {r : Int64} (h : r.toBitVec.toNat < 1) : r = 0 := by
  apply Int64.toBitVec_inj.mp
  apply BitVec.eq_of_toNat_eq
  show _ = 0
  omega
/-- the low byte -/
theorem lob (y : Int64) : (y &&& 255).toInt32 = nI (y.toBitVec.toNat % 256) := by
  apply b_ext
  intro i hi
  rw [b_nI _ hi]
  show ((y &&& 255).toBitVec.signExtend 32).getLsbD i = _
  rw [BitVec.getLsbD_signExtend, Int64.toBitVec_and, BitVec.getLsbD_and, show (256 : Nat) = 2 ^ 8 from rfl, Nat.testBit_mod_two_pow]
  have e := l255 i (by omega)
  have e' : (255 : Int64).toBitVec.getLsbD i = decide (i < 8) := e
  rw [e', if_pos (by omega), decide_eq_true hi, Bool.true_and, Bool.and_comm]
  rfl
theorem cnt_j (x : Int64) (hM : Mem) (K : Int32 → Int64 → Option (Int32 × Mem)) : ∀ n i (r : Int64), i ≤ 8 → 8 - i < n → r.toBitVec.toNat < 2 ^ (64 - 8 * i) →
    (∃ c, i ≤ c ∧ c ≤ 8 ∧ xt_X5_countIn_l8 (fun (v4_1 : Int32) => (some v4_1)) n r (nI i) (nI i) = some (nI c) ∧ xt_X9_put_l5 x hM K n (nI i) r = K (nI c) 0) ∨
    (xt_X5_countIn_l8 (fun (v4_1 : Int32) => (some v4_1)) n r (nI i) (nI i) = some (-2) ∧ (xt_X9_put_l5 x hM K n (nI i) r = some (-2, hM) ∨ ∃ c r', ¬ r' = 0 ∧ xt_X9_put_l5 x hM K n (nI i) r = K (nI c) r')) := by
  intro n
  induction n with
  | zero => intro i r _ h; omega
  | succ n ih =>
    intro i r hi hn hr
    rw [xt_X5_countIn_l8, xt_X9_put_l5]
    by_cases c8 : i = 8
    · have e : r = 0 := z64 (by rw [c8] at hr; exact hr)
      rw [c8, if_pos (show (8 : Int32) ≤ nI 8 by decide), if_pos (show (8 : Int32) ≤ nI 8 by decide), e]
      exact Or.inl ⟨8, by omega, by omega, rfl, rfl⟩
    · have n8 : ¬ (8 : Int32) ≤ nI i := by rw [lit 8, ble _ _ (by omega) (by omega)]; omega
      rw [if_neg n8, if_neg n8]
      by_cases cr : r = 0
      · have z : lg_cmp r 0 = 0 := (lgz r).mpr cr
        have z2 : lg_cmp (r &&& 255) 0 = 0 := (lgz _).mpr (by rw [cr]; decide)
        rw [if_pos z, if_pos z2, cr]
        exact Or.inl ⟨i, by omega, by omega, rfl, rfl⟩
      · rw [if_neg (mt (lgz r).mp cr)]
        by_cases cb : r &&& 255 = 0
        · rw [if_pos ((lgz _).mpr cb), cb, if_pos (show (0 : Int64).toInt32 < 33 by decide)]
          exact Or.inr ⟨rfl, Or.inr ⟨i, r, cr, rfl⟩⟩
        · rw [if_neg (mt (lgz _).mp cb)]
          unfold xt_X9_in
          by_cases c1 : (r &&& 255).toInt32 < 33
          · rw [if_pos c1, if_pos c1]
            exact Or.inr ⟨rfl, Or.inl rfl⟩
          · rw [if_neg c1, if_neg c1]
            have hb : (r &&& 255).toInt32 = nI (r.toBitVec.toNat % 256) := lob r
            have hlt : r.toBitVec.toNat % 256 < 256 := Nat.mod_lt _ (by omega)
            by_cases c2 : (r &&& 255).toInt32 ≤ 126
            · have c3 : ¬ (126 : Int32) < (r &&& 255).toInt32 := by
                rw [hb, lit 126] at c2 ⊢
                rw [ble _ _ (by omega) (by omega)] at c2
                rw [nI_ltI (by omega) (by omega)]; omega
              rw [if_pos c2, if_neg c3, Option.bind_some, if_neg (show ¬ (1 : Int32) = 0 by decide), nI_1]
              have hr2 : (sh8 r).toBitVec.toNat < 2 ^ (64 - 8 * (i + 1)) := by
                rw [sh8_n]
                have : 2 ^ (64 - 8 * i) = 2 ^ (64 - 8 * (i + 1)) * 256 := by
                  rw [show 64 - 8 * i = 64 - 8 * (i + 1) + 8 by omega, Nat.pow_add]
                rw [this] at hr
                exact Nat.div_lt_of_lt_mul (by rw [Nat.mul_comm]; exact hr)
              rcases ih (i + 1) (sh8 r) (by omega) (by omega) hr2 with ⟨c, k1, k2, k3, k4⟩ | h
              · exact Or.inl ⟨c, by omega, k2, k3, k4⟩
              · exact Or.inr h
            · have c3 : (126 : Int32) < (r &&& 255).toInt32 := by
                rw [hb, lit 126] at c2 ⊢
                rw [ble _ _ (by omega) (by omega)] at c2
                rw [nI_ltI (by omega) (by omega)]; omega
              rw [if_neg c2, if_pos c3]
              exact Or.inr ⟨rfl, Or.inl rfl⟩
/-! the byte that each side takes -/
def cb (x : Int64) (v : Int32) : Int32 := vp_nar .char ((((x.toUInt64 >>> (((8 : Int32) * v).toInt64.toUInt64 &&& Int64.toUInt64 63)).toInt64) &&& (255 : Int64)).toInt32.toUInt32 % 65536).toInt32
def mb (x : Int64) (v : Int32) : Int32 := ((x >>> (((8 : Int32) * v).toInt64 &&& 63)) &&& (255 : Int64)).toInt32
theorem l_u : ∀ j, j < 8 → (((((8 : Int32) * nI j).toInt64.toUInt64 &&& Int64.toUInt64 63)).toBitVec % 64).toNat = 8 * j := by decide
theorem l_s : ∀ j, j < 8 → (((((8 : Int32) * nI j).toInt64 &&& 63)).toBitVec.smod 64).toNat = 8 * j := by decide
theorem byte_eq (x : Int64) {j : Nat} (hj : j < 8) : cb x (nI j) = mb x (nI j) := by
  unfold cb mb
  rw [pk_vc, lob, lob, pk_char, pk_tn (show _ % 256 < 2 ^ 32 by have : ((x.toUInt64 >>> (((8 : Int32) * nI j).toInt64.toUInt64 &&& Int64.toUInt64 63)).toInt64).toBitVec.toNat % 256 < 256 := Nat.mod_lt _ (by omega); omega), Nat.mod_eq_of_lt (show _ % 256 < 65536 by have : ((x.toUInt64 >>> (((8 : Int32) * nI j).toInt64.toUInt64 &&& Int64.toUInt64 63)).toInt64).toBitVec.toNat % 256 < 256 := Nat.mod_lt _ (by omega); omega)]
  congr 1
  apply Nat.eq_of_testBit_eq
  intro i
  rw [show (256 : Nat) = 2 ^ 8 from rfl, Nat.testBit_mod_two_pow, Nat.testBit_mod_two_pow]
  by_cases c : i < 8
  · rw [decide_eq_true c, Bool.true_and, Bool.true_and]
    show (x.toUInt64 >>> (((8 : Int32) * nI j).toInt64.toUInt64 &&& Int64.toUInt64 63)).toBitVec.getLsbD i = (x >>> (((8 : Int32) * nI j).toInt64 &&& 63)).toBitVec.getLsbD i
    rw [UInt64.toBitVec_shiftRight, Int64.toBitVec_shiftRight]
    show (x.toUInt64.toBitVec >>> ((((8 : Int32) * nI j).toInt64.toUInt64 &&& Int64.toUInt64 63).toBitVec % 64).toNat).getLsbD i = (x.toBitVec.sshiftRight ((((8 : Int32) * nI j).toInt64 &&& 63).toBitVec.smod 64).toNat).getLsbD i
    rw [l_u j hj, l_s j hj, BitVec.getLsbD_ushiftRight, BitVec.getLsbD_sshiftRight]
    have h64 : 8 * j + i < 64 := by omega
    simp [h64, show i < 64 by omega]
  · rw [decide_eq_false c, Bool.false_and, Bool.false_and]
/-- the pad's text with characters put behind it -/
def tput (L c : Nat) (tx : Nat → Int32) (x : Int64) : Nat → Int32 := fun i => if i < L then tx i else mb x (nI (c - 1 - (i - L)))
theorem append_ok {m : Mem} {L c : Nat} {tx : Nat → Int32} (x : Int64) (hc : PC m L tx) (hL : L + c ≤ 24) (h8 : c ≤ 8) (h1 : 1 ≤ c) : ∃ o, xt_X5_append x (nI c) m = some o ∧ PC o (L + c) (tput L c tx x) ∧ ∀ r, r ≠ 25 → r ≠ 26 → o r = m r := by
  unfold xt_X5_append
  have hcc : nI c - (1 : Int32) = nI (c - 1) := by
    have := nI_pred (c - 1)
    rw [show c - 1 + 1 = c by omega] at this
    exact this
  rw [hcc]
  -- a loop that counts down
  have key : ∀ n t (s : Mem), t < c → c - t < n → s 25 1 = nI (L + t) → (∀ i, i < L + t → s 26 i = tput L c tx x i) →
      ∃ s' : Mem, xt_X5_append_l5 x m (fun (m_1 : Mem) => (some (mgs m [25, 26] m_1))) n (nI (c - 1 - t)) s = some (mgs m [25, 26] (mgs m [25, 26] s')) ∧ PC s' (L + c) (tput L c tx x) := by
    intro n
    induction n with
    | zero => intro t s _ h; omega
    | succ n ih =>
      intro t s ht hn e25 e26
      rw [xt_X5_append_l5, if_neg (nIneg (by omega)), e25, if_neg (nIneg (show L + t < 2 ^ 31 by omega)), if_neg (show ¬ (24 : Int32) ≤ nI (L + t) by rw [lit 24, ble _ _ (by omega) (by omega)]; omega), xgd_in (xin rfl (show L + t < 24 by omega) (by decide)), cl (by omega), nI_1]
      have e26' : ∀ i, i < L + t + 1 → (upd (s 26) (L + t) (cb x (nI (c - 1 - t)))) i = tput L c tx x i := by
        intro i hi
        by_cases z : i = L + t
        · rw [z, upd_s, byte_eq x (show c - 1 - t < 8 by omega)]
          unfold tput
          rw [if_neg (by omega), show L + t - L = t by omega]
        · rw [upd_n _ _ z]; exact e26 i (by omega)
      have m1 : ∀ j : Nat, 1 ≤ j → nI j + (-1 : Int32) = nI (j - 1) := fun j hj => by
        have := pk_m1 (j - 1)
        rw [show j - 1 + 1 = j by omega] at this
        exact this
      by_cases last : t + 1 = c
      · have z0 : c - 1 - t = 0 := by omega
        rw [z0] at e26' ⊢
        cases n with
        | zero => omega
        | succ n =>
          rw [xt_X5_append_l5, if_pos (show nI 0 + (-1 : Int32) < 0 by decide)]
          refine ⟨_, rfl, ?_, ?_⟩
          · show upd (s 25) 1 (nI (L + t + 1)) 1 = _
            rw [upd_s, show L + t + 1 = L + c by omega]
          · intro i hi
            exact e26' i (by omega)
      · rw [m1 _ (by omega), show c - 1 - t - 1 = c - 1 - (t + 1) by omega]
        refine ih (t + 1) _ (by omega) (by omega) ?_ ?_
        · show upd (s 25) 1 (nI (L + t + 1)) 1 = _
          rw [upd_s]; rfl
        · intro i hi
          exact e26' i (by omega)
  obtain ⟨s', k1, k2⟩ := key 10000 0 m (by omega) (by omega) hc.1 (fun i hi => by
    unfold tput
    rw [if_pos (by omega)]; exact hc.2 i (by omega))
  have k1' : xt_X5_append_l5 x m (fun (m_1 : Mem) => (some (mgs m [25, 26] m_1))) 10000 (nI (c - 1)) m = _ := k1
  rw [k1']
  refine ⟨_, rfl, ⟨k2.1, k2.2⟩, fun r r1 r2 => ?_⟩
  rw [mgs_o _ _ (by simp [r1, r2])]
theorem put86 {m : Mem} {L c : Nat} {tx : Nat → Int32} (x : Int64) (hc : PM m L tx) (hL : L + c ≤ 24) (h8 : c ≤ 8) (h1 : 1 ≤ c) (K : Mem → Option (Int32 × Mem)) :
    ∃ s' : Mem, (∀ i, i < L + c → s' 45 i = tput L c tx x i) ∧ xt_X9_put_l86 x (nI c) m K 10000 (0 : Int32) m = K (mgs m [45] s') := by
  have key := lup (fun n (s : Mem) v => xt_X9_put_l86 x (nI c) m K n v s) (fun s => K (mgs m [45] s)) c
    (fun t s => ∀ i, i < L + t → s 45 i = tput L c tx x i)
    (fun n s _ => by
      show xt_X9_put_l86 _ _ _ _ (n + 1) (nI c) s = _
      rw [xt_X9_put_l86, if_pos (Int32.le_refl _)])
    (fun n t s ht hI => by
      show ∃ s', _ ∧ xt_X9_put_l86 _ _ _ _ (n + 1) (nI t) s = _
      rw [xt_X9_put_l86, if_neg (by rw [ble _ _ (by omega) (by omega)]; omega), hc.1, nI_add, xgd_in (xin rfl (show L + t < 24 by omega) (by decide)), cl (by omega), nI_1, show nI c - (1 : Int32) = nI (c - 1) from pk_sub h1, pk_sub (by omega)]
      refine ⟨_, fun i hi => ?_, rfl⟩
      show upd (s 45) (L + t) (mb x (nI (c - 1 - t))) i = _
      by_cases z : i = L + t
      · rw [z, upd_s]
        unfold tput
        rw [if_neg (by omega), show L + t - L = t by omega]
      · rw [upd_n _ _ z]; exact hI i (by omega))
    10000 0 m (by omega) (by omega) (fun i hi => by
      unfold tput
      rw [if_pos (by omega)]; exact hc.2 i (by omega))
  obtain ⟨s, h1, h2⟩ := key
  exact ⟨s, h1, h2⟩
