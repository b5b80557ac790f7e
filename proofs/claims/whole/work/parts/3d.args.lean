/-! ===== arguments ===== -/
theorem in0 (x : Int32) {hi : Nat} (h : hi + 1 < 2 ^ 31) : (x < 0 ∧ xt_X9_in x 0 (nI hi) = some 0) ∨ (¬ x < 0 ∧ nI hi < x ∧ xt_X9_in x 0 (nI hi) = some 0) ∨ ∃ j, j ≤ hi ∧ x = nI j ∧ xt_X9_in x 0 (nI hi) = some 1 := by
  unfold xt_X9_in
  by_cases c : x < 0
  · exact Or.inl ⟨c, if_pos c⟩
  · right
    rw [if_neg c]
    rcases pk_ix x (n := hi + 1) h with q | q | ⟨j, q1, q2⟩
    · exact absurd q c
    · have q' : nI hi < x := by
        obtain ⟨k, k1, k2⟩ := nI_of c
        rw [k2] at q ⊢
        rw [nI_leI (by omega) (by omega)] at q
        rw [nI_ltI (by omega) (by omega)]; omega
      exact Or.inl ⟨c, q', if_pos q'⟩
    · right
      exact ⟨j, by omega, q2, if_neg (by rw [q2, nI_ltI (by omega) (by omega)]; omega)⟩
theorem places_ok (x : Int32) : (xt_X3_isPlace x = some 0 ∧ xt_X9_isPlace x = some 0) ∨ ∃ j, j < 16 ∧ x = nI j ∧ xt_X3_isPlace x = some 1 ∧ xt_X9_isPlace x = some 1 := by
  unfold xt_X3_isPlace xt_X9_isPlace
  rw [lit 15]
  rcases in0 x (hi := 15) (by omega) with ⟨q1, q2⟩ | ⟨q1, q2, q3⟩ | ⟨j, q1, q2, q3⟩
  · rw [q2, if_pos q1]
    exact Or.inl ⟨rfl, rfl⟩
  · rw [q3, if_neg q1]
    have q' : (16 : Int32) ≤ x := by
      obtain ⟨k, k1, k2⟩ := nI_of q1
      rw [k2] at q2 ⊢
      rw [nI_ltI (by omega) (by omega)] at q2
      rw [lit 16, nI_leI (by omega) (by omega)]; omega
    rw [if_pos q']
    exact Or.inl ⟨rfl, rfl⟩
  · right
    rw [q3]
    refine ⟨j, by omega, q2, ?_, rfl⟩
    rw [if_neg (by rw [q2]; exact nIneg (by omega)), if_neg (by rw [q2, lit 16, ble _ _ (by omega) (by omega)]; omega)]
theorem sh1_chk : bAll 16 (fun j => ((1 : Int32) <<< (nI j &&& 31)) == nI (2 ^ j)) = true := by decide +kernel
theorem sh1 {j : Nat} (h : j < 16) : (1 : Int32) <<< (nI j &&& 31) = nI (2 ^ j) := by
  have := bAll_e sh1_chk h
  simpa using this
def p3P (f a b : Nat) : Bool := (decide (2 ^ f ||| 2 ^ a ||| 2 ^ b < 65536)) && (Nat.beq (pcF (2 ^ f ||| 2 ^ a ||| 2 ^ b)) 3 == (!Nat.beq f a && (!Nat.beq f b && !Nat.beq a b)))
theorem p3_chk : bAll 16 (fun f => bAll 16 (fun a => bAll 16 (fun b => p3P f a b))) = true := by decide +kernel
theorem p3_ok {f a b : Nat} (hf : f < 16) (ha : a < 16) (hb : b < 16) : 2 ^ f ||| 2 ^ a ||| 2 ^ b < 65536 ∧ (pcB (2 ^ f ||| 2 ^ a ||| 2 ^ b) = 3 ↔ f ≠ a ∧ f ≠ b ∧ a ≠ b) := by
  have := bAll_e (bAll_e (bAll_e p3_chk hf) ha) hb
  unfold p3P at this
  rw [Bool.and_eq_true, decide_eq_true_eq, beq_iff_eq] at this
  refine ⟨this.1, ?_⟩
  rw [pcF_eq, ← Nat.beq_eq, this.2]
  have nb : ∀ x y : Nat, Nat.beq x y = false ↔ x ≠ y := fun x y => by
    rw [← Bool.not_eq_true, Nat.beq_eq]
  rw [Bool.and_eq_true, Bool.and_eq_true, Bool.not_eq_true', Bool.not_eq_true', Bool.not_eq_true', nb, nb, nb]
/-- a position as it may be set up -/
def okP (g : Nat → Nat) (w f a b : Nat) : Prop := w < 2 ∧ (f < 16 ∧ a < 16 ∧ b < 16) ∧ (f ≠ a ∧ f ≠ b ∧ a ≠ b) ∧ bfr (g 3) f = true ∧ bfr (g 3) a = true ∧ bfr (g 3) b = true
theorem err_ok {m m' : Mem} {g : Nat → Nat} (hc : StC (m 21) g) (hs : MS m' g) (hv : VS g) (x1 x2 x3 x4 : Int32) :
    ∃ e : Int32, xt_X8_errorOf x1 x2 x3 x4 m = some e ∧ xt_X9_whyNot x1 x2 x3 x4 m' = some e ∧ ((¬ e = 0 ∧ ¬ 0 ≤ e) ∨ (e = 0 ∧ ∃ w f a b, x1 = nI w ∧ x2 = nI f ∧ x3 = nI a ∧ x4 = nI b ∧ okP g w f a b)) := by
  have d1 : ¬ (-1 : Int32) = 0 ∧ ¬ (0 : Int32) ≤ -1 := by decide
  have d2 : ¬ (-2 : Int32) = 0 ∧ ¬ (0 : Int32) ≤ -2 := by decide
  unfold xt_X8_errorOf xt_X9_whyNot
  rcases places_ok x2 with ⟨p1, p2⟩ | ⟨f, hf, e2, p1, p2⟩
  · rw [p1, p2]
    exact ⟨-1, rfl, rfl, Or.inl d1⟩
  rw [p1, p2, Option.bind_some, Option.bind_some, if_neg (show ¬ (1 : Int32) = 0 by decide), if_neg (show ¬ (1 : Int32) = 0 by decide)]
  rcases places_ok x3 with ⟨p1, p2⟩ | ⟨a, ha, e3, p1, p2⟩
  · rw [p1, p2]
    exact ⟨-1, rfl, rfl, Or.inl d1⟩
  rw [p1, p2, Option.bind_some, Option.bind_some, if_neg (show ¬ (1 : Int32) = 0 by decide), if_neg (show ¬ (1 : Int32) = 0 by decide)]
  rcases places_ok x4 with ⟨p1, p2⟩ | ⟨b, hb, e4, p1, p2⟩
  · rw [p1, p2]
    exact ⟨-1, rfl, rfl, Or.inl d1⟩
  rw [p1, p2, Option.bind_some, Option.bind_some, if_neg (show ¬ (1 : Int32) = 0 by decide), if_neg (show ¬ (1 : Int32) = 0 by decide)]
  obtain ⟨q1, q2⟩ := p3_ok hf ha hb
  have hP := pcB_le (2 ^ f ||| 2 ^ a ||| 2 ^ b)
  have e3' : nI (pcB (2 ^ f ||| 2 ^ a ||| 2 ^ b)) = 3 ↔ (f ≠ a ∧ f ≠ b ∧ a ≠ b) := by rw [← q2]; exact nI_eq (b := 3) (by omega) (by omega)
  have hz : ∀ (y : Int32), y = (if (((((1 : Int32) <<< (x2 &&& 31)) ||| ((1 : Int32) <<< (x3 &&& 31))) ||| ((1 : Int32) <<< (x4 &&& 31))) &&& ((m 21) 1)) = 0 then 0 else -2) → y = if bfr (g 3) f = true ∧ bfr (g 3) a = true ∧ bfr (g 3) b = true then 0 else -2 := by
    intro y hy
    rw [hy, e2, e3, e4, hc.2.1]
    have z := ((((msk_1 hf).or (msk_1 ha)).or (msk_1 hb)).and (msk_nI hv.B)).z
    have zz : ((((1 : Int32) <<< (nI f &&& 31) ||| (1 : Int32) <<< (nI a &&& 31)) ||| (1 : Int32) <<< (nI b &&& 31)) &&& nI (g 3)) = 0 ↔ (bfr (g 3) f = true ∧ bfr (g 3) a = true ∧ bfr (g 3) b = true) := by
      rw [z]
      unfold bfr
      rw [Bool.not_eq_true', Bool.not_eq_true', Bool.not_eq_true']
      constructor
      · intro h
        have h1 := h f hf
        have h2 := h a ha
        have h3 := h b hb
        simp at h1 h2 h3
        exact ⟨h1, h2, h3⟩
      · rintro ⟨h1, h2, h3⟩ i hi
        by_cases z1 : i = f
        · rw [z1, h1]; simp
        · by_cases z2 : i = a
          · rw [z2, h2]; simp
          · by_cases z3 : i = b
            · rw [z3, h3]; simp
            · simp [z1, z2, z3]
    by_cases c : bfr (g 3) f = true ∧ bfr (g 3) a = true ∧ bfr (g 3) b = true
    · rw [if_pos c, if_pos (zz.mpr c)]
    · rw [if_neg c, if_neg (mt zz.mp c)]
  have ifs : ∀ (c : Prop) [Decidable c], (if c then some (0 : Int32) else some (-2 : Int32)) = some (if c then 0 else -2) := by
    intro c _
    by_cases h : c
    · rw [if_pos h, if_pos h]
    · rw [if_neg h, if_neg h]
  rw [ifs]
  have hz' := hz _ rfl
  obtain ⟨y, hy⟩ : ∃ y : Int32, y = (if (((((1 : Int32) <<< (x2 &&& 31)) ||| ((1 : Int32) <<< (x3 &&& 31))) ||| ((1 : Int32) <<< (x4 &&& 31))) &&& ((m 21) 1)) = 0 then 0 else -2) := ⟨_, rfl⟩
  rw [← hy] at hz' ⊢
  rw [e2, e3, e4, sh1 hf, sh1 ha, sh1 hb, nor, nor, bitCount_ok q1, Option.bind_some]
  have ef : xt_X9_isFree (nI f) m' = some (bI (bfr (g 3) f)) := isFree_ok hs.MA hv.B hf
  have ea : xt_X9_isFree (nI a) m' = some (bI (bfr (g 3) a)) := isFree_ok hs.MA hv.B ha
  have eb : xt_X9_isFree (nI b) m' = some (bI (bfr (g 3) b)) := isFree_ok hs.MA hv.B hb
  rw [ef, ea, eb]
  have n1 : nI f = nI a ↔ f = a := nI_eq (by omega) (by omega)
  have n2 : nI f = nI b ↔ f = b := nI_eq (by omega) (by omega)
  have n3 : nI a = nI b ↔ a = b := nI_eq (by omega) (by omega)
  -- what the reference says when who is 0 or 1
  have mm : ∃ e, (if nI f = nI a then (some (-2 : Int32)) else (if nI f = nI b then (some (-2 : Int32)) else (if nI a = nI b then (some (-2 : Int32)) else (Option.bind (some (bI (bfr (g 3) f))) (fun (o_5 : Int32) => (if o_5 = 0 then (some (-2 : Int32)) else (Option.bind (some (bI (bfr (g 3) a))) (fun (o_6 : Int32) => (if o_6 = 0 then (some (-2 : Int32)) else (Option.bind (some (bI (bfr (g 3) b))) (fun (o_7 : Int32) => (if o_7 = 0 then (some (-2 : Int32)) else (some (0 : Int32))))))))))))) ) = some e ∧ (if nI (pcB (2 ^ f ||| 2 ^ a ||| 2 ^ b)) = (3 : Int32) then some y else some (-2)) = some e ∧ ((e = -2) ∨ (e = 0 ∧ (f ≠ a ∧ f ≠ b ∧ a ≠ b) ∧ bfr (g 3) f = true ∧ bfr (g 3) a = true ∧ bfr (g 3) b = true)) := by
    by_cases c1 : f = a
    · rw [if_pos (n1.mpr c1), if_neg (fun z => (e3'.mp z).1 c1)]
      exact ⟨_, rfl, rfl, Or.inl rfl⟩
    rw [if_neg (mt n1.mp c1)]
    by_cases c2 : f = b
    · rw [if_pos (n2.mpr c2), if_neg (fun z => (e3'.mp z).2.1 c2)]
      exact ⟨_, rfl, rfl, Or.inl rfl⟩
    rw [if_neg (mt n2.mp c2)]
    by_cases c3 : a = b
    · rw [if_pos (n3.mpr c3), if_neg (fun z => (e3'.mp z).2.2 c3)]
      exact ⟨_, rfl, rfl, Or.inl rfl⟩
    rw [if_neg (mt n3.mp c3), if_pos (e3'.mpr ⟨c1, c2, c3⟩), hz']
    cases h1 : bfr (g 3) f <;> cases h2 : bfr (g 3) a <;> cases h3 : bfr (g 3) b
    · exact ⟨-2, rfl, rfl, Or.inl rfl⟩
    · exact ⟨-2, rfl, rfl, Or.inl rfl⟩
    · exact ⟨-2, rfl, rfl, Or.inl rfl⟩
    · exact ⟨-2, rfl, rfl, Or.inl rfl⟩
    · exact ⟨-2, rfl, rfl, Or.inl rfl⟩
    · exact ⟨-2, rfl, rfl, Or.inl rfl⟩
    · exact ⟨-2, rfl, rfl, Or.inl rfl⟩
    · exact ⟨0, rfl, rfl, Or.inr ⟨rfl, ⟨c1, c2, c3⟩, rfl, rfl, rfl⟩⟩
  obtain ⟨e, m1, m2, m3⟩ := mm
  have z1 : (if x1 = 0 then some y else if x1 = (1 : Int32) then some y else some (-2)) = if x1 = 0 ∨ x1 = 1 then some y else some (-2 : Int32) := by
    by_cases c0 : x1 = 0
    · rw [if_pos c0, if_pos (Or.inl c0)]
    · rw [if_neg c0]
      by_cases c1 : x1 = 1
      · rw [if_pos c1, if_pos (Or.inr c1)]
      · rw [if_neg c1, if_neg (fun z => z.elim c0 c1)]
  have z2 : (if x1 = 0 then some (-2 : Int32) else if x1 = (1 : Int32) then some (-2 : Int32) else some (-2)) = some (-2 : Int32) := by
    by_cases c0 : x1 = 0
    · rw [if_pos c0]
    · rw [if_neg c0]
      by_cases c1 : x1 = 1
      · rw [if_pos c1]
      · rw [if_neg c1]
  rw [z1, z2, lit 1]
  have good : ∀ w, w < 2 → x1 = nI w → xt_X9_in x1 0 (nI 1) = some 1 → ∃ e' : Int32, (if nI (pcB (2 ^ f ||| 2 ^ a ||| 2 ^ b)) = (3 : Int32) then (if x1 = 0 ∨ x1 = nI 1 then some y else some (-2 : Int32)) else some (-2)) = some e' ∧ (Option.bind (xt_X9_in x1 0 (nI 1)) (fun (o_4 : Int32) => (if o_4 = 0 then (some (-2 : Int32)) else (if nI f = nI a then (some (-2 : Int32)) else (if nI f = nI b then (some (-2 : Int32)) else (if nI a = nI b then (some (-2 : Int32)) else (Option.bind (some (bI (bfr (g 3) f))) (fun (o_5 : Int32) => (if o_5 = 0 then (some (-2 : Int32)) else (Option.bind (some (bI (bfr (g 3) a))) (fun (o_6 : Int32) => (if o_6 = 0 then (some (-2 : Int32)) else (Option.bind (some (bI (bfr (g 3) b))) (fun (o_7 : Int32) => (if o_7 = 0 then (some (-2 : Int32)) else (some (0 : Int32))))))))))))))))) = some e' ∧ ((¬ e' = 0 ∧ ¬ 0 ≤ e') ∨ (e' = 0 ∧ ∃ w f' a' b', x1 = nI w ∧ nI f = nI f' ∧ nI a = nI a' ∧ nI b = nI b' ∧ okP g w f' a' b')) := by
    intro w hw ew ei
    have or1 : x1 = 0 ∨ x1 = nI 1 := by
      have : w = 0 ∨ w = 1 := by omega
      rcases this with z | z
      · left; rw [ew, z]; rfl
      · right; rw [ew, z]
    rw [ei, Option.bind_some, if_neg (show ¬ (1 : Int32) = 0 by decide), if_pos or1]
    refine ⟨e, m2, m1, ?_⟩
    rcases m3 with z | ⟨z, r1, r2⟩
    · left; rw [z]; exact d2
    · exact Or.inr ⟨z, w, f, a, b, ew, rfl, rfl, rfl, hw, ⟨hf, ha, hb⟩, r1, r2⟩
  have bad : ¬ (x1 = 0 ∨ x1 = nI 1) → xt_X9_in x1 0 (nI 1) = some 0 → (if nI (pcB (2 ^ f ||| 2 ^ a ||| 2 ^ b)) = (3 : Int32) then (if x1 = 0 ∨ x1 = nI 1 then some y else some (-2 : Int32)) else some (-2)) = some (-2 : Int32) := by
    intro h _
    rw [if_neg h]
    by_cases c : nI (pcB (2 ^ f ||| 2 ^ a ||| 2 ^ b)) = (3 : Int32)
    · rw [if_pos c]
    · rw [if_neg c]
  rcases in0 x1 (hi := 1) (by omega) with ⟨r1, r2⟩ | ⟨r1, r2, r3⟩ | ⟨j, r1, r2, r3⟩
  · have nn : ¬ (x1 = 0 ∨ x1 = nI 1) := by
      rintro (z | z)
      · rw [z] at r1; exact absurd r1 (by decide)
      · rw [z] at r1; exact absurd r1 (by decide)
    rw [bad nn r2, r2]
    exact ⟨-2, rfl, rfl, Or.inl d2⟩
  · have nn : ¬ (x1 = 0 ∨ x1 = nI 1) := by
      rintro (z | z)
      · rw [z] at r2; exact absurd r2 (by decide)
      · rw [z] at r2; exact absurd r2 (by decide)
    rw [bad nn r3, r3]
    exact ⟨-2, rfl, rfl, Or.inl d2⟩
  · exact good j (by omega) r2 r3
