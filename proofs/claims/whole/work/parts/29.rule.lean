/-! ===== the class makes the rule ===== -/
def cI (o : Option Nat) : Int32 := match o with
  | none => -1
  | some x => nI x
theorem FN_le (s B key : Nat) (o : Option Nat) (N : Nat) : FN s B key o N ≤ N := cntE_le _ _
theorem FN_60 {s B key x N : Nat} (h : 60 ≤ x) : FN s B key (some x) N = 0 := by
  apply cntE_0
  intro n _
  unfold Fq
  have : decide (Dn s B n = some x) = false := by
    rw [decide_eq_false_iff_not]
    intro e
    have := Dn_lt e
    omega
  rw [this, Bool.and_false, Bool.and_false]
theorem amx_le {F : Option Nat → Nat} {M : Nat} (h : ∀ o, F o ≤ M) : ∀ k, (amx F k).1 ≤ M := by
  intro k
  induction k with
  | zero => exact Nat.zero_le _
  | succ k ih =>
    rw [amx]
    by_cases c : (amx F k).1 < F (some k)
    · rw [if_pos c]; exact h _
    · rw [if_neg c]; exact ih
theorem amx_63 {F : Option Nat → Nat} (h : ∀ x, 60 ≤ x → F (some x) = 0) : amx F 63 = amx F 60 := by
  have e : ∀ k, 60 ≤ k → amx F (k + 1) = amx F k := by
    intro k hk
    rw [amx, h k hk, if_neg (by omega)]
  rw [e 62 (by omega), e 61 (by omega), e 60 (by omega)]
def CT (s B : Nat) (m : Mem) : Prop := ∀ key c, key < 98 → c < 64 → m 18 (64 * key + c) = nI (FN s B key (colO c) 4096)
theorem CT.c {s B : Nat} {m m' : Mem} (h : CT s B m) (e : m' 18 = m 18) : CT s B m' := by unfold CT; rw [e]; exact h
theorem distanceOf_ok {c : Nat} (hc : c < 64) : xt_X7_distanceOf (nI c) = some (dI (colO c)) := by
  unfold xt_X7_distanceOf colO
  rw [lit 63]
  by_cases h : c = 63
  · rw [if_pos (by rw [h]), if_pos h]; rfl
  · rw [if_neg (by rw [nI_eq (by omega) (by omega)]; exact h), if_neg h]; rfl
theorem commonest_ok {m : Mem} {s B key : Nat} (hc : CT s B m) (hk : key < 98) : xt_X7_commonest (nI key) m = some (tld s B key) := by
  unfold xt_X7_commonest
  have key := lup (fun n (q : Int32 × Int32) v => xt_X7_commonest_l7 (nI key) m (fun (v3_2 : Int32) => (some v3_2)) n q.1 q.2 v) (fun q => some q.2) 64
    (fun i q => (i < 64 → q = (nI (amx (fun o => FN s B key o 4096) i).1, cI (amx (fun o => FN s B key o 4096) i).2)) ∧ (i = 64 → q.2 = tld s B key))
    (fun n q _ => by
      show xt_X7_commonest_l7 _ _ _ (n + 1) q.1 q.2 (nI 64) = _
      rw [xt_X7_commonest_l7, if_pos (show (64 : Int32) ≤ nI 64 by decide)])
    (fun n i q hi hI => by
      show ∃ s', _ ∧ xt_X7_commonest_l7 _ _ _ (n + 1) q.1 q.2 (nI i) = _
      have hq := hI.1 hi
      have l1 := FN_le s B key (colO i) 4096
      have l2 := amx_le (F := fun o => FN s B key o 4096) (M := 4096) (fun o => FN_le s B key o 4096) i
      rw [xt_X7_commonest_l7, lit 64, if_neg (by rw [ble _ _ (by omega) (by omega)]; omega), pk_mul, nI_add, show key * 64 + i = 64 * key + i by omega, xgd_in (xin rfl (by omega) (by decide)), cl (by omega), hc key i hk hi, distanceOf_ok hi, Option.bind_some, nI_1, hq]
      dsimp only
      have cnd : nI (FN s B key (colO i) 4096) ≤ nI (amx (fun o => FN s B key o 4096) i).1 ↔ ¬ (amx (fun o => FN s B key o 4096) i).1 < FN s B key (colO i) 4096 := by
        rw [ble _ _ (by omega) (by omega)]; omega
      by_cases e63 : i = 63
      · have eF : amx (fun o => FN s B key o 4096) 63 = amx (fun o => FN s B key o 4096) 60 := amx_63 (fun x hx => FN_60 hx)
        have et : tld s B key = if (amx (fun o => FN s B key o 4096) 63).1 < FN s B key none 4096 then -6 else cI (amx (fun o => FN s B key o 4096) 63).2 := by
          rw [eF]
          unfold tld tldF cI
          rfl
        subst e63
        have ec : colO 63 = none := rfl
        rw [ec] at cnd ⊢
        by_cases c : (amx (fun o => FN s B key o 4096) 63).1 < FN s B key none 4096
        · rw [if_neg (fun z => cnd.mp z c)]
          refine ⟨(_, _), ⟨fun h => absurd h (by omega), fun _ => ?_⟩, rfl⟩
          show (-6 : Int32) = _
          rw [et, if_pos c]
        · rw [if_pos (cnd.mpr c)]
          refine ⟨(_, _), ⟨fun h => absurd h (by omega), fun _ => ?_⟩, rfl⟩
          show cI _ = _
          rw [et, if_neg c]
      · have ec : colO i = some i := if_neg e63
        rw [ec] at cnd ⊢
        by_cases c : (amx (fun o => FN s B key o 4096) i).1 < FN s B key (some i) 4096
        · rw [if_neg (fun z => cnd.mp z c)]
          refine ⟨(_, _), ⟨fun h => ?_, fun h => absurd h (by omega)⟩, rfl⟩
          rw [amx, if_pos c]; rfl
        · rw [if_pos (cnd.mpr c)]
          refine ⟨(_, _), ⟨fun h => ?_, fun h => absurd h (by omega)⟩, rfl⟩
          rw [amx, if_neg c]; rfl)
    10000 0 ((0 : Int32), (-1 : Int32)) (by omega) (by omega) ⟨fun _ => rfl, fun h => absurd h (by omega)⟩
  obtain ⟨q, h1, h2⟩ := key
  have h2' : xt_X7_commonest_l7 (nI key) m (fun (v3_2 : Int32) => (some v3_2)) 10000 (0 : Int32) (-1 : Int32) (0 : Int32) = _ := h2
  rw [h2', h1.2 rfl]
def TE (s B : Nat) (m : Mem) : Prop := ∀ key, key < 98 → m 19 key = tld s B key
def used (s B : Nat) : Nat := cntE (fun key => !decide (tld s B key = -1)) 98
theorem makeRule_ok {m : Mem} {s B : Nat} (hc : CT s B m) (z : m 16 10 = 0) : ∃ o, xt_X7_makeRule m = some o ∧ TE s B o ∧ o 16 10 = nI (used s B) ∧ (∀ k, k ≠ 10 → o 16 k = m 16 k) ∧ ∀ r, [16, 19].contains r = false → o r = m r := by
  unfold xt_X7_makeRule
  have key := lup (fun n (q : Mem) v => xt_X7_makeRule_l2 m (fun (m_2 : Mem) => (some (mgs m [16, 19] m_2))) n v q) (fun q => some (mgs m [16, 19] (mgs m [16, 19] q))) 98
    (fun i q => (∀ key, key < i → q 19 key = tld s B key) ∧ q 16 10 = nI (cntE (fun key => !decide (tld s B key = -1)) i) ∧ ∀ k, k ≠ 10 → q 16 k = m 16 k)
    (fun n q _ => by
      show xt_X7_makeRule_l2 _ _ (n + 1) (nI 98) q = _
      rw [xt_X7_makeRule_l2, if_pos (show (98 : Int32) ≤ nI 98 by decide)])
    (fun n i q hi hI => by
      obtain ⟨I1, I2, I3⟩ := hI
      show ∃ s', _ ∧ xt_X7_makeRule_l2 _ _ (n + 1) (nI i) q = _
      have v10 : vp_in (10 : Int32) 11 := by unfold vp_in; decide
      rw [xt_X7_makeRule_l2, lit 98, if_neg (by rw [ble _ _ (by omega) (by omega)]; omega), commonest_ok hc hi, Option.bind_some, xgd_in (xin rfl hi (by decide)), xgd_in (xin rfl hi (by decide)), xgd_in v10, xgd_in v10, cl (by omega), upd_s, nI_1, tc10]
      have w : ∀ key, key < i + 1 → upd (q 19) i (tld s B i) key = tld s B key := by
        intro key hkey
        by_cases c : key = i
        · rw [c, upd_s]
        · rw [upd_n _ _ c]; exact I1 key (by omega)
      by_cases c : tld s B i = -1
      · rw [if_pos c]
        refine ⟨mgs (mset m 19 (upd (q 19) i (tld s B i))) [16] q, ⟨w, ?_, I3⟩, rfl⟩
        show q 16 10 = nI (cntE _ i + (if (!decide (tld s B i = -1)) = true then 1 else 0))
        rw [decide_eq_true c]; exact I2
      · rw [if_neg c]
        refine ⟨mset (mset m 16 (upd (q 16) 10 (q 16 10 + 1))) 19 (upd (q 19) i (tld s B i)), ⟨w, ?_, ?_⟩, rfl⟩
        · show upd (q 16) 10 (q 16 10 + 1) 10 = nI (cntE _ i + (if (!decide (tld s B i = -1)) = true then 1 else 0))
          rw [upd_s, decide_eq_false c, I2, nI_1]; rfl
        · intro k hk
          show upd (q 16) 10 (q 16 10 + 1) k = _
          rw [upd_n _ _ hk]; exact I3 k hk)
    10000 0 m (by omega) (by omega) ⟨fun key h => absurd h (by omega), z, fun _ _ => rfl⟩
  obtain ⟨q, ⟨h1, h2, h3⟩, h4⟩ := key
  refine ⟨_, h4, ?_, ?_, ?_, fun r hr => mgs_o _ _ hr⟩
  · intro key hk
    rw [mgs_i _ _ (by decide), mgs_i _ _ (by decide)]; exact h1 key hk
  · rw [mgs_i _ _ (by decide), mgs_i _ _ (by decide)]; exact h2
  · intro k hk
    rw [mgs_i _ _ (by decide), mgs_i _ _ (by decide)]; exact h3 k hk
theorem told_ok {m : Mem} {s B key : Nat} (ht : TE s B m) (hk : key < 98) : xt_X7_told (nI key) m = some (tld s B key) := by
  unfold xt_X7_told
  rw [lit 0, if_neg (by rw [nI_ltI (by omega) (by omega)]; omega), lit 98, if_neg (by rw [ble _ _ (by omega) (by omega)]; omega), xgd_in (xin rfl hk (by decide)), cl (by omega), ht key hk]
theorem countException_ok {m : Mem} {a b c d r : Nat} (h6 : m 16 6 = nI a) (h7 : m 16 7 = nI b) (h8 : m 16 8 = nI c) (h9 : m 16 9 = nI d) (hr : r < 10000) (hd : d < 10000) (nb : Bool) :
    ∃ o, xt_X7_countException (nI r) (bI nb) m = some o ∧ o 16 6 = nI (a + 1) ∧ o 16 7 = nI (if r = 1 then b + 1 else b) ∧ o 16 8 = nI (c + (if nb then 1 else 0)) ∧ o 16 9 = nI (max d r) ∧ (∀ k, k ≠ 6 → k ≠ 7 → k ≠ 8 → k ≠ 9 → o 16 k = m 16 k) := by
  unfold xt_X7_countException
  have v6 : vp_in (6 : Int32) 11 := by unfold vp_in; decide
  have v7 : vp_in (7 : Int32) 11 := by unfold vp_in; decide
  have v8 : vp_in (8 : Int32) 11 := by unfold vp_in; decide
  have v9 : vp_in (9 : Int32) 11 := by unfold vp_in; decide
  simp only [xgd_in v6, xgd_in v7, xgd_in v8, xgd_in v9, tc6, tc7, tc8, tc9]
  have e9 : ∀ (f : Nat → Int32) (x : Int32), upd f 6 x 9 = f 9 := fun f x => upd_n f x (by omega)
  have e97 : ∀ (f : Nat → Int32) (x : Int32), upd f 7 x 9 = f 9 := fun f x => upd_n f x (by omega)
  have e98 : ∀ (f : Nat → Int32) (x : Int32), upd f 8 x 9 = f 9 := fun f x => upd_n f x (by omega)
  have e76 : ∀ (f : Nat → Int32) (x : Int32), upd f 6 x 7 = f 7 := fun f x => upd_n f x (by omega)
  have e86 : ∀ (f : Nat → Int32) (x : Int32), upd f 6 x 8 = f 8 := fun f x => upd_n f x (by omega)
  have e87 : ∀ (f : Nat → Int32) (x : Int32), upd f 7 x 8 = f 8 := fun f x => upd_n f x (by omega)
  simp only [e9, e97, e98, e76, e86, e87, h6, h7, h8, h9, nI_1, jmax_ok (show d < 2 ^ 31 by omega) (show r < 2 ^ 31 by omega), Option.bind_some]
  have e1 : nI r = 1 ↔ r = 1 := by rw [lit 1, nI_eq (by omega) (by omega)]
  have fin : ∀ (T : Nat → Int32), T 6 = nI (a + 1) → T 7 = nI (if r = 1 then b + 1 else b) → T 8 = nI (c + (if nb then 1 else 0)) → T 9 = nI (max d r) → (∀ k, k ≠ 6 → k ≠ 7 → k ≠ 8 → k ≠ 9 → T k = m 16 k) →
      ∃ o, some (mset m 16 T) = some o ∧ o 16 6 = nI (a + 1) ∧ o 16 7 = nI (if r = 1 then b + 1 else b) ∧ o 16 8 = nI (c + (if nb then 1 else 0)) ∧ o 16 9 = nI (max d r) ∧ (∀ k, k ≠ 6 → k ≠ 7 → k ≠ 8 → k ≠ 9 → o 16 k = m 16 k) := fun T t6 t7 t8 t9 tk => ⟨_, rfl, t6, t7, t8, t9, tk⟩
  by_cases c1 : r = 1
  · rw [if_pos (e1.mpr c1)]
    cases nb
    · rw [if_pos (show bI false = 0 by decide)]
      refine fin _ ?_ ?_ ?_ ?_ (fun k k6 k7 k8 k9 => ?_)
      · rw [upd_n _ _ (by omega), upd_n _ _ (by omega), upd_s]
      · rw [upd_n _ _ (by omega), upd_s, if_pos c1]
      · rw [upd_n _ _ (by omega), upd_n _ _ (by omega), upd_n _ _ (by omega), h8]; rfl
      · rw [upd_s]
      · rw [upd_n _ _ k9, upd_n _ _ k7, upd_n _ _ k6]
    · rw [if_neg (show ¬ bI true = 0 by decide)]
      refine fin _ ?_ ?_ ?_ ?_ (fun k k6 k7 k8 k9 => ?_)
      · rw [upd_n _ _ (by omega), upd_n _ _ (by omega), upd_n _ _ (by omega), upd_s]
      · rw [upd_n _ _ (by omega), upd_n _ _ (by omega), upd_s, if_pos c1]
      · rw [upd_n _ _ (by omega), upd_s]; rfl
      · rw [upd_s]
      · rw [upd_n _ _ k9, upd_n _ _ k8, upd_n _ _ k7, upd_n _ _ k6]
  · rw [if_neg (mt e1.mp c1)]
    cases nb
    · rw [if_pos (show bI false = 0 by decide)]
      refine fin _ ?_ ?_ ?_ ?_ (fun k k6 k7 k8 k9 => ?_)
      · rw [upd_n _ _ (by omega), upd_s]
      · rw [upd_n _ _ (by omega), upd_n _ _ (by omega), if_neg c1, h7]
      · rw [upd_n _ _ (by omega), upd_n _ _ (by omega), h8]; rfl
      · rw [upd_s]
      · rw [upd_n _ _ k9, upd_n _ _ k6]
    · rw [if_neg (show ¬ bI true = 0 by decide)]
      refine fin _ ?_ ?_ ?_ ?_ (fun k k6 k7 k8 k9 => ?_)
      · rw [upd_n _ _ (by omega), upd_n _ _ (by omega), upd_s]
      · rw [upd_n _ _ (by omega), upd_n _ _ (by omega), upd_n _ _ (by omega), if_neg c1, h7]
      · rw [upd_n _ _ (by omega), upd_s]; rfl
      · rw [upd_s]
      · rw [upd_n _ _ k9, upd_n _ _ k8, upd_n _ _ k6]
theorem countWith_sum {m : Mem} {s B : Nat} (hc : CT s B m) {c : Nat} (hx : c < 64) (x : Int32) (he : dI (colO c) = x) (k : Int32 → Option Int32) :
    xt_X7_countWith_l18 x (nI c) m k 10000 (0 : Int32) (0 : Int32) = k (nI (cntE (fun n => St B n && decide (Dn s B n = colO c)) 4096)) := by
  have key := lup (fun n (q : Int32) v => xt_X7_countWith_l18 x (nI c) m k n q v) k 98
    (fun i q => q = nI (sumE (fun key => FN s B key (colO c) 4096) i))
    (fun n q _ => by
      show xt_X7_countWith_l18 _ _ _ _ (n + 1) q (nI 98) = _
      rw [xt_X7_countWith_l18, if_pos (show (98 : Int32) ≤ nI 98 by decide)])
    (fun n i q hi hI => by
      show ∃ s', _ ∧ xt_X7_countWith_l18 _ _ _ _ (n + 1) q (nI i) = _
      rw [xt_X7_countWith_l18, lit 98, if_neg (by rw [ble _ _ (by omega) (by omega)]; omega), lit 0, if_neg (by rw [nI_ltI (by omega) (by omega)]; omega), lit 64, if_neg (by rw [ble _ _ (by omega) (by omega)]; omega), distanceOf_ok hx, Option.bind_some, if_pos he, pk_mul, nI_add, show i * 64 + c = 64 * i + c by omega, xgd_in (xin rfl (by omega) (by decide)), cl (by omega), hc i c hi hx, nI_1, hI, nI_add]
      exact ⟨_, rfl, rfl⟩)
    10000 0 (0 : Int32) (by omega) (by omega) rfl
  obtain ⟨q, h1, h2⟩ := key
  subst h1
  rw [sum_keys s B (colO c) 4096 (Nat.le_refl _)] at h2
  exact h2
theorem countWith_none {m : Mem} {s B : Nat} (hc : CT s B m) : xt_X7_countWith (-6 : Int32) m = some (nI (cntE (fun n => St B n && decide (Dn s B n = none)) 4096)) := by
  unfold xt_X7_countWith
  rw [if_pos rfl]
  exact countWith_sum hc (c := 63) (by omega) (-6) rfl _
theorem countWith_some {m : Mem} {s B d : Nat} (hc : CT s B m) (hd : d ≤ 200) : xt_X7_countWith (nI d) m = some (nI (cntE (fun n => St B n && decide (Dn s B n = some d)) 4096)) := by
  unfold xt_X7_countWith
  rw [if_neg (nI_m6 (by omega))]
  have z : 60 ≤ d → cntE (fun n => St B n && decide (Dn s B n = some d)) 4096 = 0 := by
    intro h
    apply cntE_0
    intro n _
    have : decide (Dn s B n = some d) = false := by
      rw [decide_eq_false_iff_not]
      intro e
      have := Dn_lt e
      omega
    rw [this, Bool.and_false]
  by_cases c : d < 63
  · have e : colO d = some d := if_neg (by omega)
    have := countWith_sum hc (c := d) (by omega) (nI d) (by rw [e]; rfl) (fun (v3_2 : Int32) => (some v3_2))
    rw [e] at this
    exact this
  · rw [z (by omega)]
    by_cases c2 : d = 63
    · have key := lup (fun n (q : Int32) v => xt_X7_countWith_l18 (nI d) (nI d) m (fun (v3_2 : Int32) => (some v3_2)) n q v) (fun q => some q) 98
        (fun i q => q = 0)
        (fun n q _ => by
          show xt_X7_countWith_l18 _ _ _ _ (n + 1) q (nI 98) = _
          rw [xt_X7_countWith_l18, if_pos (show (98 : Int32) ≤ nI 98 by decide)])
        (fun n i q hi hI => by
          show ∃ s', _ ∧ xt_X7_countWith_l18 _ _ _ _ (n + 1) q (nI i) = _
          have e : colO d = none := if_pos c2
          rw [xt_X7_countWith_l18, lit 98, if_neg (by rw [ble _ _ (by omega) (by omega)]; omega), lit 0, if_neg (by rw [nI_ltI (by omega) (by omega)]; omega), lit 64, if_neg (by rw [ble _ _ (by omega) (by omega)]; omega), distanceOf_ok (by omega), Option.bind_some, e, if_neg (show ¬ dI none = nI d from fun z => nI_m6 (by omega) z.symm), nI_1, hI]
          exact ⟨_, rfl, rfl⟩)
        10000 0 (0 : Int32) (by omega) (by omega) rfl
      obtain ⟨q, h1, h2⟩ := key
      subst h1
      exact h2
    · rw [xt_X7_countWith_l18, if_neg (by decide), lit 0, if_neg (by rw [nI_ltI (by omega) (by omega)]; omega), lit 64, if_pos (by rw [ble _ _ (by omega) (by omega)]; omega)]
