/-! ===== history and slots ===== -/
def HC (m : Mem) (n : Nat) (hs : Nat → Nat → Nat) : Prop := m 23 1 = nI n ∧ ∀ i, i < n → StC (m (60 + i)) (hs i)
def HM (m : Mem) (n p : Nat) (hs : Nat → Nat → Nat) : Prop := m 31 3 = nI n ∧ m 31 2 = nI p ∧ ∀ i, i < n → StM (m 33) (8 * ((p + i) % 6)) (hs i)
def HV (n p : Nat) (hs : Nat → Nat → Nat) : Prop := n ≤ 6 ∧ p < 6 ∧ ∀ i, i < n → VS (hs i)
def pn (n : Nat) : Nat := if n < 6 then n + 1 else 6
def pp (n p : Nat) : Nat := if n < 6 then p else (p + 1) % 6
def ph (n : Nat) (hs : Nat → Nat → Nat) (g : Nat → Nat) : Nat → Nat → Nat := fun i => if n < 6 then (if i = n then g else hs i) else (if i = 5 then g else hs (i + 1))
theorem HV_push {n p : Nat} {hs : Nat → Nat → Nat} {g : Nat → Nat} (h : HV n p hs) (hv : VS g) : HV (pn n) (pp n p) (ph n hs g) := by
  obtain ⟨h1, h2, h3⟩ := h
  unfold pn pp ph
  by_cases c : n < 6
  · rw [if_pos c, if_pos c]
    refine ⟨by omega, h2, fun i hi => ?_⟩
    dsimp only
    rw [if_pos c]
    by_cases ci : i = n
    · rw [if_pos ci]; exact hv
    · rw [if_neg ci]; exact h3 i (by omega)
  · rw [if_neg c, if_neg c]
    refine ⟨by omega, by omega, fun i hi => ?_⟩
    dsimp only
    rw [if_neg c]
    by_cases ci : i = 5
    · rw [if_pos ci]; exact hv
    · rw [if_neg ci]; exact h3 (i + 1) (by omega)
theorem take_ok (c : Nat → Int32) {c' : Nat → Int32} {g : Nat → Nat} (h : StC c' g) : ∃ t, xt_X6_take c c' = some t ∧ StC t g ∧ t 1 = c' 1 := by
  unfold xt_X6_take
  refine ⟨_, rfl, ⟨?_, ?_, ?_, ?_, ?_, ?_⟩, ?_⟩
  · rw [upd_n _ _ (by omega), upd_n _ _ (by omega), upd_n _ _ (by omega), upd_n _ _ (by omega), upd_n _ _ (by omega), upd_s]; exact h.1
  · rw [upd_n _ _ (by omega), upd_n _ _ (by omega), upd_n _ _ (by omega), upd_n _ _ (by omega), upd_s]; exact h.2.1
  · rw [upd_n _ _ (by omega), upd_n _ _ (by omega), upd_n _ _ (by omega), upd_s]; exact h.2.2.1
  · rw [upd_n _ _ (by omega), upd_n _ _ (by omega), upd_s]; exact h.2.2.2.1
  · rw [upd_n _ _ (by omega), upd_s]; exact h.2.2.2.2.1
  · rw [upd_s]; exact h.2.2.2.2.2
  · rw [upd_n _ _ (by omega), upd_n _ _ (by omega), upd_n _ _ (by omega), upd_n _ _ (by omega), upd_s]
theorem fr7 {r : Nat} (hr : [23, 60, 61, 62, 63, 64, 65].contains r = false) : r ≠ 23 ∧ ∀ k, k < 6 → r ≠ 60 + k := by
  refine ⟨frOut hr (by decide), fun k hk => ?_⟩
  have : k = 0 ∨ k = 1 ∨ k = 2 ∨ k = 3 ∨ k = 4 ∨ k = 5 := by omega
  rcases this with e | e | e | e | e | e <;> subst e <;> exact frOut hr (by decide)
theorem rec1 {m : Mem} {t : Nat → Int32} {k : Nat} {hs : Nat → Nat → Nat} {g : Nat → Nat} (hk : k < 6) (h : HC m k hs) (ht : StC t g) :
    HC (mset (mset m (60 + k) t) 23 (upd (m 23) 1 ((m 23 1) + (1 : Int32)))) (pn k) (ph k hs g) ∧ ∀ r, [23, 60, 61, 62, 63, 64, 65].contains r = false → (mset (mset m (60 + k) t) 23 (upd (m 23) 1 ((m 23 1) + (1 : Int32)))) r = m r := by
  refine ⟨⟨?_, fun i hi => ?_⟩, fun r hr => ?_⟩
  · rw [mset_s, upd_s, h.1, nI_1]
    unfold pn
    rw [if_pos hk]
  · unfold pn at hi
    rw [if_pos hk] at hi
    rw [mset_n _ _ (by omega)]
    unfold ph
    rw [if_pos hk]
    by_cases c : i = k
    · rw [c, mset_s, if_pos rfl]; exact ht
    · rw [mset_n _ _ (by omega), if_neg c]; exact h.2 i (by omega)
  · obtain ⟨h1, h2⟩ := fr7 hr
    rw [mset_n _ _ h1, mset_n _ _ (h2 k hk)]
theorem record_ok {m : Mem} {c : Nat → Int32} {n : Nat} {hs : Nat → Nat → Nat} {g : Nat → Nat} (h : HC m n hs) (hn : n ≤ 6) (hc : StC c g) :
    ∃ o, xt_X4_record c m = some o ∧ HC o (pn n) (ph n hs g) ∧ ∀ r, [23, 60, 61, 62, 63, 64, 65].contains r = false → o r = m r := by
  unfold xt_X4_record
  have e := h.1
  rw [if_neg (show ¬ m 23 1 < 0 by rw [e]; exact nIneg (by omega))]
  have cs : n = 0 ∨ n = 1 ∨ n = 2 ∨ n = 3 ∨ n = 4 ∨ n = 5 ∨ n = 6 := by omega
  rcases cs with z | z | z | z | z | z | z <;> subst z
  · obtain ⟨t, t1, t2, _⟩ := take_ok (m 60) hc
    rw [if_pos (show m 23 1 < 6 by rw [e]; decide), if_pos (show m 23 1 = 0 by rw [e]; decide), t1]
    exact ⟨_, rfl, rec1 (by omega) h t2⟩
  · obtain ⟨t, t1, t2, _⟩ := take_ok (m 61) hc
    rw [if_pos (show m 23 1 < 6 by rw [e]; decide), if_neg (show ¬ m 23 1 = 0 by rw [e]; decide), if_pos (show m 23 1 = 1 by rw [e]; decide), t1]
    exact ⟨_, rfl, rec1 (by omega) h t2⟩
  · obtain ⟨t, t1, t2, _⟩ := take_ok (m 62) hc
    rw [if_pos (show m 23 1 < 6 by rw [e]; decide), if_neg (show ¬ m 23 1 = 0 by rw [e]; decide), if_neg (show ¬ m 23 1 = 1 by rw [e]; decide), if_pos (show m 23 1 = 2 by rw [e]; decide), t1]
    exact ⟨_, rfl, rec1 (by omega) h t2⟩
  · obtain ⟨t, t1, t2, _⟩ := take_ok (m 63) hc
    rw [if_pos (show m 23 1 < 6 by rw [e]; decide), if_neg (show ¬ m 23 1 = 0 by rw [e]; decide), if_neg (show ¬ m 23 1 = 1 by rw [e]; decide), if_neg (show ¬ m 23 1 = 2 by rw [e]; decide), if_pos (show m 23 1 = 3 by rw [e]; decide), t1]
    exact ⟨_, rfl, rec1 (by omega) h t2⟩
  · obtain ⟨t, t1, t2, _⟩ := take_ok (m 64) hc
    rw [if_pos (show m 23 1 < 6 by rw [e]; decide), if_neg (show ¬ m 23 1 = 0 by rw [e]; decide), if_neg (show ¬ m 23 1 = 1 by rw [e]; decide), if_neg (show ¬ m 23 1 = 2 by rw [e]; decide), if_neg (show ¬ m 23 1 = 3 by rw [e]; decide), if_pos (show m 23 1 = 4 by rw [e]; decide), t1]
    exact ⟨_, rfl, rec1 (by omega) h t2⟩
  · obtain ⟨t, t1, t2, _⟩ := take_ok (m 65) hc
    rw [if_pos (show m 23 1 < 6 by rw [e]; decide), if_neg (show ¬ m 23 1 = 0 by rw [e]; decide), if_neg (show ¬ m 23 1 = 1 by rw [e]; decide), if_neg (show ¬ m 23 1 = 2 by rw [e]; decide), if_neg (show ¬ m 23 1 = 3 by rw [e]; decide), if_neg (show ¬ m 23 1 = 4 by rw [e]; decide), if_pos (show m 23 1 = 5 by rw [e]; decide), t1]
    exact ⟨_, rfl, rec1 (by omega) h t2⟩
  · obtain ⟨t, t1, t2, _⟩ := take_ok (m 60) hc
    rw [if_neg (show ¬ m 23 1 < 6 by rw [e]; decide), t1]
    refine ⟨_, rfl, ⟨rfl, fun i hi => ?_⟩, fun r hr => ?_⟩
    · have cs : i = 0 ∨ i = 1 ∨ i = 2 ∨ i = 3 ∨ i = 4 ∨ i = 5 := by
        have : pn 6 = 6 := rfl
        omega
      rcases cs with z | z | z | z | z | z <;> subst z
      · exact h.2 1 (by omega)
      · exact h.2 2 (by omega)
      · exact h.2 3 (by omega)
      · exact h.2 4 (by omega)
      · exact h.2 5 (by omega)
      · exact t2
    · obtain ⟨h1, h2⟩ := fr7 hr
      have a0 := h2 0 (by omega)
      have a1 := h2 1 (by omega)
      have a2 := h2 2 (by omega)
      have a3 := h2 3 (by omega)
      have a4 := h2 4 (by omega)
      have a5 := h2 5 (by omega)
      rw [if_neg a0, if_neg a1, if_neg a2, if_neg a3, if_neg a4, if_neg a5, if_neg h1]
theorem back1 {m : Mem} {k : Nat} {hs : Nat → Nat → Nat} (h : HC m (k + 1) hs) : HC (mset m 23 (upd (m 23) 1 ((m 23 1) - (1 : Int32)))) k hs ∧ ∀ r, r ≠ 23 → (mset m 23 (upd (m 23) 1 ((m 23 1) - (1 : Int32)))) r = m r := by
  refine ⟨⟨?_, fun i hi => ?_⟩, fun r hr => mset_n _ _ hr⟩
  · rw [mset_s, upd_s, h.1, nI_pred]
  · rw [mset_n _ _ (by omega)]; exact h.2 i (by omega)
theorem takeBack_ok {m : Mem} {c : Nat → Int32} {n : Nat} {hs : Nat → Nat → Nat} (h : HC m (n + 1) hs) (hn : n < 6) :
    ∃ c' o, xt_X4_takeBack c m = some (c', o) ∧ StC c' (hs n) ∧ HC o n hs ∧ ∀ r, r ≠ 23 → o r = m r := by
  unfold xt_X4_takeBack
  have e := h.1
  rw [if_neg (show ¬ (6 : Int32) < m 23 1 by rw [e, lit 6, nI_ltI (by omega) (by omega)]; omega)]
  have cs : n = 0 ∨ n = 1 ∨ n = 2 ∨ n = 3 ∨ n = 4 ∨ n = 5 := by omega
  rcases cs with z | z | z | z | z | z <;> subst z
  · obtain ⟨t, t1, t2, _⟩ := take_ok c (h.2 0 (by omega))
    rw [if_neg (show ¬ m 23 1 ≤ 0 by rw [e]; decide), if_pos (show m 23 1 - 1 = 0 by rw [e]; decide), t1]
    exact ⟨_, _, rfl, t2, back1 h⟩
  · obtain ⟨t, t1, t2, _⟩ := take_ok c (h.2 1 (by omega))
    rw [if_neg (show ¬ m 23 1 ≤ 0 by rw [e]; decide), if_neg (show ¬ m 23 1 - 1 = 0 by rw [e]; decide), if_pos (show m 23 1 - 1 = 1 by rw [e]; decide), t1]
    exact ⟨_, _, rfl, t2, back1 h⟩
  · obtain ⟨t, t1, t2, _⟩ := take_ok c (h.2 2 (by omega))
    rw [if_neg (show ¬ m 23 1 ≤ 0 by rw [e]; decide), if_neg (show ¬ m 23 1 - 1 = 0 by rw [e]; decide), if_neg (show ¬ m 23 1 - 1 = 1 by rw [e]; decide), if_pos (show m 23 1 - 1 = 2 by rw [e]; decide), t1]
    exact ⟨_, _, rfl, t2, back1 h⟩
  · obtain ⟨t, t1, t2, _⟩ := take_ok c (h.2 3 (by omega))
    rw [if_neg (show ¬ m 23 1 ≤ 0 by rw [e]; decide), if_neg (show ¬ m 23 1 - 1 = 0 by rw [e]; decide), if_neg (show ¬ m 23 1 - 1 = 1 by rw [e]; decide), if_neg (show ¬ m 23 1 - 1 = 2 by rw [e]; decide), if_pos (show m 23 1 - 1 = 3 by rw [e]; decide), t1]
    exact ⟨_, _, rfl, t2, back1 h⟩
  · obtain ⟨t, t1, t2, _⟩ := take_ok c (h.2 4 (by omega))
    rw [if_neg (show ¬ m 23 1 ≤ 0 by rw [e]; decide), if_neg (show ¬ m 23 1 - 1 = 0 by rw [e]; decide), if_neg (show ¬ m 23 1 - 1 = 1 by rw [e]; decide), if_neg (show ¬ m 23 1 - 1 = 2 by rw [e]; decide), if_neg (show ¬ m 23 1 - 1 = 3 by rw [e]; decide), if_pos (show m 23 1 - 1 = 4 by rw [e]; decide), t1]
    exact ⟨_, _, rfl, t2, back1 h⟩
  · obtain ⟨t, t1, t2, _⟩ := take_ok c (h.2 5 (by omega))
    rw [if_neg (show ¬ m 23 1 ≤ 0 by rw [e]; decide), if_neg (show ¬ m 23 1 - 1 = 0 by rw [e]; decide), if_neg (show ¬ m 23 1 - 1 = 1 by rw [e]; decide), if_neg (show ¬ m 23 1 - 1 = 2 by rw [e]; decide), if_neg (show ¬ m 23 1 - 1 = 3 by rw [e]; decide), if_neg (show ¬ m 23 1 - 1 = 4 by rw [e]; decide), if_pos (show m 23 1 - 1 = 5 by rw [e]; decide), t1]
    exact ⟨_, _, rfl, t2, back1 h⟩
/-! the reference's -/
theorem keep47 {hM : Mem} {q : Nat} {g : Nat → Nat} (hq : q < 6) (hs : MS hM g) (K : Mem → Option Mem) (m0 : Mem) :
    ∃ m', (StM (m' 33) (8 * q) g ∧ ∀ j, j < 8 * q ∨ 8 * q + 8 ≤ j → m' 33 j = m0 33 j) ∧ xt_X9_keep_l47 (nI q) hM K 10000 (0 : Int32) m0 = K (mgs hM [33] m') := by
  have key := lup (fun n (s : Mem) v => xt_X9_keep_l47 (nI q) hM K n v s) (fun s => K (mgs hM [33] s)) 8
    (fun i s => (∀ k, k < i → s 33 (8 * q + k) = nI (g k)) ∧ ∀ j, j < 8 * q ∨ 8 * q + 8 ≤ j → s 33 j = m0 33 j)
    (fun n s _ => by
      show xt_X9_keep_l47 _ _ _ (n + 1) (nI 8) s = _
      rw [xt_X9_keep_l47, if_pos (show (8 : Int32) ≤ nI 8 by decide)])
    (fun n i s hi hI => by
      obtain ⟨I1, I2⟩ := hI
      show ∃ s', _ ∧ xt_X9_keep_l47 _ _ _ (n + 1) (nI i) s = _
      rw [xt_X9_keep_l47, lit 8, if_neg (by rw [ble _ _ (by omega) (by omega)]; omega), pk_mul, nI_add, xgd_in (xin rfl hi (by decide)), xgd_in (xin rfl (show 8 * q + i < 48 by omega) (by decide)), cl (by omega), cl (by omega), nI_1, hs i hi]
      refine ⟨_, ⟨fun k hk => ?_, fun j hj => ?_⟩, rfl⟩
      · rw [mset_s]
        by_cases c : k = i
        · rw [c, upd_s]
        · rw [upd_n _ _ (by omega)]; exact I1 k (by omega)
      · rw [mset_s, upd_n _ _ (by omega)]; exact I2 j hj)
    10000 0 m0 (by omega) (by omega) ⟨fun k hk => absurd hk (by omega), fun _ _ => rfl⟩
  obtain ⟨s, h1, h2⟩ := key
  exact ⟨s, h1, h2⟩
theorem rem6 {a : Nat} (h : a < 100) : nI a - nI a / (6 : Int32) * (6 : Int32) = nI (a % 6) := pk_rem (d := 6) (by omega) (by omega) (by omega)
theorem mkeep_ok {m : Mem} {n p : Nat} {hs : Nat → Nat → Nat} {g : Nat → Nat} (h : HM m n p hs) (hn : n ≤ 6) (hp : p < 6) (hms : MS m g) :
    ∃ o, xt_X9_keep m = some o ∧ HM o (pn n) (pp n p) (ph n hs g) ∧ (∀ k, k ≠ 2 → k ≠ 3 → o 31 k = m 31 k) ∧ ∀ r, r ≠ 31 → r ≠ 33 → o r = m r := by
  unfold xt_X9_keep
  obtain ⟨h1, h2, h3⟩ := h
  rw [h1, h2]
  have e6 : nI n = 6 ↔ n = 6 := nI_eq (b := 6) (by omega) (by omega)
  have fr : ∀ (f : Nat → Int32) (m' : Mem) r, r ≠ 31 → r ≠ 33 → (mgs (mset m 31 f) [33] m') r = m r := by
    intro f m' r r1 r2
    rw [mgs_o _ _ (by simp [r2]), mset_n _ _ r1]
  unfold pn pp ph
  by_cases c : n = 6
  · have nc : ¬ n < 6 := by omega
    rw [if_pos (e6.mpr c), nI_1, rem6 (by omega), c, show nI 6 - (1 : Int32) = nI 5 from by decide, nI_add, rem6 (by omega), nI_1, if_neg (show ¬ 6 < 6 by omega), if_neg (show ¬ 6 < 6 by omega)]
    obtain ⟨m', q1, q2⟩ := keep47 (hM := mset m 31 (upd (upd (m 31) 2 (nI ((p + 1) % 6))) 3 (nI 5))) (q := ((p + 1) % 6 + 5) % 6) (g := g) (by omega) (hms.c (mset_n _ _ (by omega))) (fun (m_2 : Mem) => (some (mgs (mset m 31 (upd (upd (m 31) 2 (nI ((p + 1) % 6))) 3 (nI (5 + 1)))) [33] m_2))) m
    rw [q2]
    refine ⟨_, rfl, ⟨?_, ?_, fun i hi => ?_⟩, fun k k1 k2 => ?_, fun r r1 r2 => fr _ _ r r1 r2⟩
    · show (upd (upd (m 31) 2 (nI ((p + 1) % 6))) 3 (nI (5 + 1))) 3 = _
      rw [upd_s]
    · show (upd (upd (m 31) 2 (nI ((p + 1) % 6))) 3 (nI (5 + 1))) 2 = _
      rw [upd_n _ _ (by omega), upd_s]
    · show StM (m' 33) _ _
      dsimp only
      rw [if_neg (show ¬ 6 < 6 by omega)]
      by_cases ci : i = 5
      · rw [if_pos ci, ci]; exact q1.1
      · rw [if_neg ci]
        intro k hk
        rw [q1.2 _ (by omega)]
        have := h3 (i + 1) (by omega) k hk
        rw [show (p + (i + 1)) % 6 = ((p + 1) % 6 + i) % 6 by omega] at this
        exact this
    · show (upd (upd (m 31) 2 (nI ((p + 1) % 6))) 3 (nI (5 + 1))) k = _
      rw [upd_n _ _ k2, upd_n _ _ k1]
  · have cn : n < 6 := by omega
    rw [if_neg (mt e6.mp c), nI_1, nI_add, rem6 (by omega), if_pos cn, if_pos cn]
    obtain ⟨m', q1, q2⟩ := keep47 (hM := m) (q := (p + n) % 6) (g := g) (by omega) hms (fun (m_1 : Mem) => (some (mgs (mset m 31 (upd (m 31) 3 (nI (n + 1)))) [33] m_1))) m
    rw [q2]
    refine ⟨_, rfl, ⟨?_, ?_, fun i hi => ?_⟩, fun k k1 k2 => ?_, fun r r1 r2 => fr _ _ r r1 r2⟩
    · show (upd (m 31) 3 (nI (n + 1))) 3 = _
      rw [upd_s]
    · show (upd (m 31) 3 (nI (n + 1))) 2 = _
      rw [upd_n _ _ (by omega)]; exact h2
    · show StM (m' 33) _ _
      dsimp only
      rw [if_pos cn]
      by_cases ci : i = n
      · rw [if_pos ci, ci]; exact q1.1
      · rw [if_neg ci]
        intro k hk
        rw [q1.2 _ (by omega)]
        exact h3 i (by omega) k hk
    · show (upd (m 31) 3 (nI (n + 1))) k = _
      rw [upd_n _ _ k2]
theorem undo35 {hM : Mem} {q : Nat} {g : Nat → Nat} (hq : q < 6) (hs : StM (hM 33) (8 * q) g) (K : Mem → Option (Int32 × Mem)) (m0 : Mem) :
    ∃ m' : Mem, (∀ k, k < 8 → m' 32 k = nI (g k)) ∧ xt_X9_undo_l35 (nI q) hM K 10000 (0 : Int32) m0 = K (mgs hM [32] m') := by
  have key := lup (fun n (s : Mem) v => xt_X9_undo_l35 (nI q) hM K n v s) (fun s => K (mgs hM [32] s)) 8
    (fun i s => ∀ k, k < i → s 32 k = nI (g k))
    (fun n s _ => by
      show xt_X9_undo_l35 _ _ _ (n + 1) (nI 8) s = _
      rw [xt_X9_undo_l35, if_pos (show (8 : Int32) ≤ nI 8 by decide)])
    (fun n i s hi hI => by
      show ∃ s', _ ∧ xt_X9_undo_l35 _ _ _ (n + 1) (nI i) s = _
      rw [xt_X9_undo_l35, lit 8, if_neg (by rw [ble _ _ (by omega) (by omega)]; omega), pk_mul, nI_add, xgd_in (xin rfl (show 8 * q + i < 48 by omega) (by decide)), xgd_in (xin rfl hi (by decide)), cl (by omega), cl (by omega), nI_1, hs i hi]
      refine ⟨_, fun k hk => ?_, rfl⟩
      rw [mset_s]
      by_cases c : k = i
      · rw [c, upd_s]
      · rw [upd_n _ _ c]; exact hI k (by omega))
    10000 0 m0 (by omega) (by omega) (fun k hk => absurd hk (by omega))
  obtain ⟨s, h1, h2⟩ := key
  exact ⟨s, h1, h2⟩
theorem save14 {hM : Mem} {q : Nat} {g : Nat → Nat} (hq : q < 2) (hs : MS hM g) (K : Mem → Option (Int32 × Mem)) (m0 : Mem) :
    ∃ m' : Mem, (StM (m' 34) (8 * q) g ∧ ∀ j, j < 8 * q ∨ 8 * q + 8 ≤ j → m' 34 j = m0 34 j) ∧ xt_X9_save_l14 (nI q) hM K 10000 (0 : Int32) m0 = K (mgs hM [34] m') := by
  have key := lup (fun n (s : Mem) v => xt_X9_save_l14 (nI q) hM K n v s) (fun s => K (mgs hM [34] s)) 8
    (fun i s => (∀ k, k < i → s 34 (8 * q + k) = nI (g k)) ∧ ∀ j, j < 8 * q ∨ 8 * q + 8 ≤ j → s 34 j = m0 34 j)
    (fun n s _ => by
      show xt_X9_save_l14 _ _ _ (n + 1) (nI 8) s = _
      rw [xt_X9_save_l14, if_pos (show (8 : Int32) ≤ nI 8 by decide)])
    (fun n i s hi hI => by
      obtain ⟨I1, I2⟩ := hI
      show ∃ s', _ ∧ xt_X9_save_l14 _ _ _ (n + 1) (nI i) s = _
      rw [xt_X9_save_l14, lit 8, if_neg (by rw [ble _ _ (by omega) (by omega)]; omega), pk_mul, nI_add, xgd_in (xin rfl hi (by decide)), xgd_in (xin rfl (show 8 * q + i < 16 by omega) (by decide)), cl (by omega), cl (by omega), nI_1, hs i hi]
      refine ⟨_, ⟨fun k hk => ?_, fun j hj => ?_⟩, rfl⟩
      · rw [mset_s]
        by_cases c : k = i
        · rw [c, upd_s]
        · rw [upd_n _ _ (by omega)]; exact I1 k (by omega)
      · rw [mset_s, upd_n _ _ (by omega)]; exact I2 j hj)
    10000 0 m0 (by omega) (by omega) ⟨fun k hk => absurd hk (by omega), fun _ _ => rfl⟩
  obtain ⟨s, h1, h2⟩ := key
  exact ⟨s, h1, h2⟩
theorem rest30 {hM : Mem} {q : Nat} {g : Nat → Nat} (hq : q < 2) (hs : StM (hM 34) (8 * q) g) (K : Mem → Option (Int32 × Mem)) (m0 : Mem) :
    ∃ m' : Mem, (∀ k, k < 8 → m' 32 k = nI (g k)) ∧ xt_X9_restore_l30 (nI q) hM K 10000 (0 : Int32) m0 = K (mgs hM [32] m') := by
  have key := lup (fun n (s : Mem) v => xt_X9_restore_l30 (nI q) hM K n v s) (fun s => K (mgs hM [32] s)) 8
    (fun i s => ∀ k, k < i → s 32 k = nI (g k))
    (fun n s _ => by
      show xt_X9_restore_l30 _ _ _ (n + 1) (nI 8) s = _
      rw [xt_X9_restore_l30, if_pos (show (8 : Int32) ≤ nI 8 by decide)])
    (fun n i s hi hI => by
      show ∃ s', _ ∧ xt_X9_restore_l30 _ _ _ (n + 1) (nI i) s = _
      rw [xt_X9_restore_l30, lit 8, if_neg (by rw [ble _ _ (by omega) (by omega)]; omega), pk_mul, nI_add, xgd_in (xin rfl (show 8 * q + i < 16 by omega) (by decide)), xgd_in (xin rfl hi (by decide)), cl (by omega), cl (by omega), nI_1, hs i hi]
      refine ⟨_, fun k hk => ?_, rfl⟩
      rw [mset_s]
      by_cases c : k = i
      · rw [c, upd_s]
      · rw [upd_n _ _ c]; exact hI k (by omega))
    10000 0 m0 (by omega) (by omega) (fun k hk => absurd hk (by omega))
  obtain ⟨s, h1, h2⟩ := key
  exact ⟨s, h1, h2⟩
