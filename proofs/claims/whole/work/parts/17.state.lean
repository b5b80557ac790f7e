/-! ===== the state of a game: eight numbers: settings 0..2, blocked, who, fox, low, high ===== -/
def sOf (g : Nat → Nat) : Nat := g 0 + 2 * g 1 + 4 * g 2
def pcB (B : Nat) : Nat := (List.range 16).foldl (fun a i => a + (if B.testBit i then 1 else 0)) 0
/-- settings and blocked places as they can be -/
def VC (s B : Nat) : Prop := s < 8 ∧ B < 65536 ∧ pcB B ≤ 6
def VS (g : Nat → Nat) : Prop := (g 0 < 2 ∧ g 1 < 2 ∧ g 2 < 2) ∧ VC (sOf g) (g 3) ∧ g 4 < 2 ∧ g 5 < 16 ∧ (g 6 < g 7 ∧ g 7 < 16) ∧ (bfr (g 3) (g 5) = true ∧ bfr (g 3) (g 6) = true ∧ bfr (g 3) (g 7) = true) ∧ (g 4 = 0 → g 5 ≠ g 6 ∧ g 5 ≠ g 7)
def StC (c : Nat → Int32) (g : Nat → Nat) : Prop := c 0 = nI (sOf g) ∧ c 1 = nI (g 3) ∧ c 2 = nI (g 4) ∧ c 3 = nI (g 5) ∧ c 4 = nI (g 6) ∧ c 5 = nI (g 7)
def StM (f : Nat → Int32) (o : Nat) (g : Nat → Nat) : Prop := ∀ k, k < 8 → f (o + k) = nI (g k)
theorem nor (a b : Nat) : nI a ||| nI b = nI (a ||| b) := by
  apply b_ext
  intro i hi
  rw [b_or, b_nI _ hi, b_nI _ hi, b_nI _ hi, Nat.testBit_or]
theorem sOf_bits {g : Nat → Nat} (h : g 0 < 2 ∧ g 1 < 2 ∧ g 2 < 2) : (sOf g).testBit 0 = decide (g 0 = 1) ∧ (sOf g).testBit 1 = decide (g 1 = 1) ∧ (sOf g).testBit 2 = decide (g 2 = 1) := by
  obtain ⟨h0, h1, h2⟩ := h
  unfold sOf
  have a0 : g 0 = 0 ∨ g 0 = 1 := by omega
  have a1 : g 1 = 0 ∨ g 1 = 1 := by omega
  have a2 : g 2 = 0 ∨ g 2 = 1 := by omega
  rcases a0 with a0 | a0 <;> rcases a1 with a1 | a1 <;> rcases a2 with a2 | a2 <;> rw [a0, a1, a2] <;> decide
theorem set_chk : bAll 8 (fun s => bAll 3 (fun k => ((nI s >>> (nI k &&& 31)) &&& (1 : Int32)) == bI (s.testBit k))) = true := by decide +kernel
theorem setting_ok {c : Nat → Int32} {g : Nat → Nat} (hc : StC c g) (hv : VS g) {k : Nat} (hk : k < 3) : xt_X6_setting (nI k) c = some (bI ((sOf g).testBit k)) := by
  unfold xt_X6_setting
  have := bAll_e (bAll_e set_chk hv.2.1.1) hk
  simp only [beq_iff_eq] at this
  rw [hc.1, this]
def sgn (s B : Nat) : Nat := 65536 * s + B
theorem sgn_inj {s B s' B' : Nat} (h : B < 65536) (h' : B' < 65536) (e : sgn s B = sgn s' B') : s = s' ∧ B = B' := by unfold sgn at e; omega
theorem signOf_ok {c : Nat → Int32} {g : Nat → Nat} (hc : StC c g) (hv : VS g) : xt_X0_signOf c = some (nI (sgn (sOf g) (g 3))) := by
  unfold xt_X0_signOf
  obtain ⟨hs, hB, _⟩ := hv.2.1
  have e : nI (sOf g) <<< ((16 : Int32) &&& 31) = nI (2 ^ 16 * sOf g) := by
    have := pk_shlN (n := sOf g) ((16 : Int32) &&& 31) 16 (by decide) (by omega)
    rw [this, Nat.mul_comm]
  rw [hc.1, hc.2.1, e, nor, ← Nat.two_pow_add_eq_or_of_lt (by omega)]
  rfl
/-- the class's distances are those of the settings and blocked places that its sign tells -/
def CE (m : Mem) : Prop := m 9 4 = -1 ∨ ∃ s B, VC s B ∧ m 9 4 = nI (sgn s B) ∧ ∀ n, n < 4096 → m 10 n = dI (Dn s B n)
theorem nI_m1 {a : Nat} (h : a < 2 ^ 31) : nI a ≠ -1 := by
  intro e
  have := congrArg Int32.toInt e
  rw [nI_toInt h] at this
  have h2 : (-1 : Int32).toInt = -1 := by decide
  omega
theorem sgn_lt {s B : Nat} (h : VC s B) : sgn s B < 2 ^ 31 := by unfold sgn; obtain ⟨h1, h2, _⟩ := h; omega
theorem prepare_ok {m : Mem} {c : Nat → Int32} {g : Nat → Nat} (hg : GE m) (hce : CE m) (hc : StC c g) (hv : VS g) (hb : ∀ s B, VC s B → Bd s B) :
    ∃ o, xt_X0_prepare c m = some o ∧ CE o ∧ (∀ n, n < 4096 → o 10 n = dI (Dn (sOf g) (g 3) n)) ∧ ∀ r, [9, 10, 11, 12].contains r = false → o r = m r := by
  unfold xt_X0_prepare
  rw [signOf_ok hc hv, Option.bind_some]
  by_cases e : m 9 4 = nI (sgn (sOf g) (g 3))
  · rw [if_pos e]
    refine ⟨m, rfl, hce, ?_, fun _ _ => rfl⟩
    rcases hce with h | ⟨s, B, h1, h2, h3⟩
    · rw [h] at e; exact absurd e.symm (nI_m1 (sgn_lt hv.2.1))
    · rw [h2, nI_eq (sgn_lt h1) (sgn_lt hv.2.1)] at e
      obtain ⟨rfl, e2⟩ := sgn_inj h1.2.1 hv.2.1.2.1 e
      rw [← e2]; exact h3
  · rw [if_neg e, Option.bind_some]
    have core : ∀ b0 b1 b2 : Bool, (sOf g).testBit 0 = b0 → (sOf g).testBit 1 = b1 → (sOf g).testBit 2 = b2 →
        ∃ o, (Option.bind (xt_X0_workOut (mset m 9 (upd (upd (upd (upd (upd (m 9) 4 (nI (sgn (sOf g) (g 3)))) 5 ((65535 : Int32) &&& ((c 1) ^^^ (-1 : Int32)))) 6 (bI b0)) 7 (bI b1)) 8 (bI b2)))) (fun (o_17 : Mem) => (some (mgs (mset m 9 (upd (upd (upd (upd (upd (m 9) 4 (nI (sgn (sOf g) (g 3)))) 5 ((65535 : Int32) &&& ((c 1) ^^^ (-1 : Int32)))) 6 (bI b0)) 7 (bI b1)) 8 (bI b2))) [10, 11, 12] o_17)))) = some o ∧ CE o ∧ (∀ n, n < 4096 → o 10 n = dI (Dn (sOf g) (g 3) n)) ∧ ∀ r, [9, 10, 11, 12].contains r = false → o r = m r := by
      intro b0 b1 b2 h0 h1 h2
      have hEF : EF (mset m 9 (upd (upd (upd (upd (upd (m 9) 4 (nI (sgn (sOf g) (g 3)))) 5 ((65535 : Int32) &&& ((c 1) ^^^ (-1 : Int32)))) 6 (bI b0)) 7 (bI b1)) 8 (bI b2))) (sOf g) (g 3) := by
        refine ⟨?_, ?_, ?_, ?_⟩
        · show msk ((65535 : Int32) &&& ((c 1) ^^^ (-1 : Int32))) _
          rw [hc.2.1]
          exact (msk_full.andn (msk_nI hv.2.1.2.1)).congr (fun f _ => by simp [bfr])
        · rw [h0]; rfl
        · rw [h1]; rfl
        · rw [h2]; rfl
      obtain ⟨o, ho1, ho2⟩ := workOut_ok (hg.mset (by omega)) hEF (hb _ _ hv.2.1)
      rw [ho1, Option.bind_some]
      refine ⟨_, rfl, Or.inr ⟨sOf g, g 3, hv.2.1, rfl, ho2⟩, ho2, fun r hr => ?_⟩
      have h9 : r ≠ 9 := fun e => by subst e; cases hr
      have h10 : [10, 11, 12].contains r = false := by
        have : [9, 10, 11, 12].contains r = ((r == 9) || [10, 11, 12].contains r) := rfl
        rw [this, Bool.or_eq_false_iff] at hr
        exact hr.2
      rw [mgs_o _ _ h10, mset_n _ _ h9]
    have s0 : xt_X6_setting (0 : Int32) c = some (bI ((sOf g).testBit 0)) := setting_ok hc hv (k := 0) (by omega)
    have s1 : xt_X6_setting (1 : Int32) c = some (bI ((sOf g).testBit 1)) := setting_ok hc hv (k := 1) (by omega)
    have s2 : xt_X6_setting (2 : Int32) c = some (bI ((sOf g).testBit 2)) := setting_ok hc hv (k := 2) (by omega)
    rw [s0, Option.bind_some, s1, Option.bind_some, Option.bind_some, s2, Option.bind_some, Option.bind_some, Option.bind_some, Option.bind_some]
    have t : bI true = 1 := rfl
    have f : ¬ bI false = 1 := by decide
    cases h0 : (sOf g).testBit 0 <;> cases h1 : (sOf g).testBit 1 <;> cases h2 : (sOf g).testBit 2
    · rw [if_neg f, if_neg f, if_neg f]; exact core false false false h0 h1 h2
    · rw [if_neg f, if_neg f, if_pos t]; exact core false false true h0 h1 h2
    · rw [if_neg f, if_pos t, if_neg f]; exact core false true false h0 h1 h2
    · rw [if_neg f, if_pos t, if_pos t]; exact core false true true h0 h1 h2
    · rw [if_pos t, if_neg f, if_neg f]; exact core true false false h0 h1 h2
    · rw [if_pos t, if_neg f, if_pos t]; exact core true false true h0 h1 h2
    · rw [if_pos t, if_pos t, if_neg f]; exact core true true false h0 h1 h2
    · rw [if_pos t, if_pos t, if_pos t]; exact core true true true h0 h1 h2
