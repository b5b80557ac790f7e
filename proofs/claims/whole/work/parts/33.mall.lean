/-! ===== what the reference tells of all positions ===== -/
def M38 (s B : Nat) (m : Mem) : Prop := ∀ n, n < 4096 → m 38 n = dI (Dn s B n)
def M39 (B : Nat) (m : Mem) : Prop := ∀ n, n < 4096 → (isPos B n = true → m 39 n = nI (lowA B n)) ∧ (isPos B n = false → m 39 n = -6)
theorem M3.M39 {s B : Nat} {m : Mem} (h : M3 s B m) : M39 B m := fun n hn => ⟨fun c => ((h.2 n hn).1 c).1, fun c => ((h.2 n hn).2 c).1⟩
theorem M38.c {s B : Nat} {m m' : Mem} (h : M38 s B m) (e : m' 38 = m 38) : M38 s B m' := by unfold M38; rw [e]; exact h
theorem M39.c {B : Nat} {m m' : Mem} (h : M39 B m) (e : m' 39 = m 39) : M39 B m' := by unfold M39; rw [e]; exact h
theorem FS_FL {B : Nat} {m : Mem} {n : Nat} (hn : n < 4096) (h : M39 B m) : ∃ m2 : Mem, m2 39 = m 39 ∧ FLn B m2 n := by
  refine ⟨fun r k => if r = 39 then m 39 k else if isPos B n then nI (dct B n (Wl B 8).length) else 0, rfl, fun c => ⟨(h n hn).1 c, ?_⟩, fun c => ⟨(h n hn).2 c, ?_⟩⟩
  · show (if isPos B n = true then nI (dct B n (Wl B 8).length) else 0) = _
    rw [if_pos c]
  · show (if isPos B n = true then nI (dct B n (Wl B 8).length) else 0) = _
    rw [c, if_neg (by decide)]
theorem FS_St {B : Nat} {m : Mem} {n : Nat} (hn : n < 4096) (h : M39 B m) : m 39 n = nI n ↔ St B n = true := by
  obtain ⟨m2, e, h2⟩ := FS_FL hn h
  rw [← e]; exact FL_St hn h2
theorem FS_neg {B : Nat} {m : Mem} {n : Nat} (hn : n < 4096) (h : M39 B m) : m 39 n < 0 ↔ isPos B n = false := by
  cases c : isPos B n
  · rw [(h n hn).2 c]; exact ⟨fun _ => rfl, fun _ => by decide⟩
  · rw [(h n hn).1 c]
    have : lowA B n ≤ n := minE_le _ _ _
    refine ⟨fun z => ?_, fun z => by cases z⟩
    rw [lit 0, nI_ltI (by omega) (by omega)] at z
    omega
theorem count_s (q : Nat → Bool) (i : Nat) : cntE q (i + 1) = cntE q i + (if q i then 1 else 0) := rfl
theorem positions_ok {m : Mem} {B : Nat} (h9 : M39 B m) : xt_X9_positions (0 : Int32) m = some (nI (cntE (isPos B) 4096)) ∧ xt_X9_positions (1 : Int32) m = some (nI (cntE (St B) 4096)) := by
  unfold xt_X9_positions
  constructor
  · have key := lup (fun n (q : Int32) v => xt_X9_positions_l4 (0 : Int32) m (fun (v2_1 : Int32) => (some v2_1)) n q v) (fun q => some q) 4096
      (fun i q => q = nI (cntE (isPos B) i))
      (fun n q _ => by
        show xt_X9_positions_l4 _ _ _ (n + 1) q (nI 4096) = _
        rw [xt_X9_positions_l4, if_pos (show (4096 : Int32) ≤ nI 4096 by decide)])
      (fun n i q hi hI => by
        show ∃ s', _ ∧ xt_X9_positions_l4 _ _ _ (n + 1) q (nI i) = _
        rw [xt_X9_positions_l4, lit 4096, if_neg (by rw [ble _ _ (by omega) (by omega)]; omega), if_pos rfl, xgd_in (xin rfl hi (by decide)), cl (by omega), nI_1, hI, count_s]
        have hF := FS_neg hi h9
        cases c : isPos B i
        · rw [if_pos (hF.mpr c), lit 0, nI_add]
          exact ⟨_, rfl, rfl⟩
        · rw [if_neg (show ¬ m 39 i < 0 from fun z => by rw [hF.mp z] at c; cases c), lit 1, nI_add]
          exact ⟨_, rfl, rfl⟩)
      10000 0 (0 : Int32) (by omega) (by omega) rfl
    obtain ⟨q, h1, h2⟩ := key
    subst h1; exact h2
  · have key := lup (fun n (q : Int32) v => xt_X9_positions_l4 (1 : Int32) m (fun (v2_1 : Int32) => (some v2_1)) n q v) (fun q => some q) 4096
      (fun i q => q = nI (cntE (St B) i))
      (fun n q _ => by
        show xt_X9_positions_l4 _ _ _ (n + 1) q (nI 4096) = _
        rw [xt_X9_positions_l4, if_pos (show (4096 : Int32) ≤ nI 4096 by decide)])
      (fun n i q hi hI => by
        show ∃ s', _ ∧ xt_X9_positions_l4 _ _ _ (n + 1) q (nI i) = _
        rw [xt_X9_positions_l4, lit 4096, if_neg (by rw [ble _ _ (by omega) (by omega)]; omega), if_neg (show ¬ (1 : Int32) = 0 by decide), xgd_in (xin rfl hi (by decide)), cl (by omega), nI_1, hI, count_s]
        have hF := FS_St hi h9
        cases c : St B i
        · rw [if_neg (show ¬ m 39 i = nI i from fun z => by rw [hF.mp z] at c; cases c), lit 0, nI_add]
          exact ⟨_, rfl, rfl⟩
        · rw [if_pos (hF.mpr c), lit 1, nI_add]
          exact ⟨_, rfl, rfl⟩)
      10000 0 (0 : Int32) (by omega) (by omega) rfl
    obtain ⟨q, h1, h2⟩ := key
    subst h1; exact h2
theorem greatest_ok {m : Mem} {s B : Nat} (h : M38 s B m) : xt_X9_greatest m = some (gI1 (grt (Dn s B) 4096)) := by
  unfold xt_X9_greatest
  have key := lup (fun n (q : Int32) v => xt_X9_greatest_l5 m (fun (v1_2 : Int32) => (some v1_2)) n q v) (fun q => some q) 4096
    (fun i q => q = gI1 (grt (Dn s B) i))
    (fun n q _ => by
      show xt_X9_greatest_l5 _ _ (n + 1) q (nI 4096) = _
      rw [xt_X9_greatest_l5, if_pos (show (4096 : Int32) ≤ nI 4096 by decide)])
    (fun n i q hi hI => by
      show ∃ s', _ ∧ xt_X9_greatest_l5 _ _ (n + 1) q (nI i) = _
      have gr : xt_X9_greater (gI1 (grt (Dn s B) i)) (dI (Dn s B i)) = some (gI1 (grt (Dn s B) (i + 1))) := by
        unfold xt_X9_greater
        rw [grt]
        cases e : Dn s B i with
        | none =>
          dsimp only
          cases e2 : grt (Dn s B) i with
          | none => rfl
          | some p =>
            obtain ⟨d, n0⟩ := p
            have hd := Dn_lt ((grt_spec (Dn s B) i).2 d n0 e2).2.1
            show (if nI d ≤ -6 then some (-6) else some (nI d)) = some (nI d)
            rw [if_neg (fun z => absurd (Int32.le_trans (nI_pos' (show d < 2 ^ 31 by omega)) z) (by decide))]
        | some x =>
          have hx := Dn_lt e
          dsimp only
          cases e2 : grt (Dn s B) i with
          | none =>
            show (if (-6 : Int32) ≤ nI x then some (nI x) else some (-6)) = some (nI x)
            rw [if_pos (Int32.le_trans (show (-6 : Int32) ≤ 0 by decide) (nI_pos' (by omega)))]
          | some p =>
            obtain ⟨d, n0⟩ := p
            have hd := Dn_lt ((grt_spec (Dn s B) i).2 d n0 e2).2.1
            show (if nI d ≤ nI x then some (nI x) else some (nI d)) = some (gI1 (if d < x then some (x, i) else some (d, n0)))
            by_cases c : d < x
            · rw [if_pos c, if_pos ((ble _ _ (by omega) (by omega)).mpr (by omega))]; rfl
            · rw [if_neg c]
              by_cases c2 : d = x
              · rw [c2, if_pos (Int32.le_refl _)]; rfl
              · rw [if_neg (by rw [ble _ _ (by omega) (by omega)]; omega)]; rfl
      rw [xt_X9_greatest_l5, lit 4096, if_neg (by rw [ble _ _ (by omega) (by omega)]; omega), xgd_in (xin rfl hi (by decide)), cl (by omega), nI_1, hI, h i hi, gr, Option.bind_some]
      exact ⟨_, rfl, rfl⟩)
    10000 0 (-6 : Int32) (by omega) (by omega) rfl
  obtain ⟨q, h1, h2⟩ := key
  subst h1; exact h2
theorem lowestWith_ok {m : Mem} {s B : Nat} (h : M38 s B m) : xt_X9_lowestWith (gI1 (grt (Dn s B) 4096)) m = some (gI2 (grt (Dn s B) 4096)) := by
  unfold xt_X9_lowestWith
  cases e : grt (Dn s B) 4096 with
  | none =>
    rw [xt_X9_lowestWith_l2, if_pos (show gI1 none < 0 by show (-6 : Int32) < 0; decide), if_neg (show ¬ 0 ≤ gI1 none by show ¬ (0 : Int32) ≤ -6; decide)]
    rfl
  | some p =>
    obtain ⟨d, n0⟩ := p
    obtain ⟨h1, h2, h3, _⟩ := (grt_spec (Dn s B) 4096).2 d n0 e
    have hd := Dn_lt h2
    have go : ∀ (a i : Nat), i ≤ n0 → n0 - i < a → xt_X9_lowestWith_l2 (nI d) m (fun (v2_1 : Int32) => (if 0 ≤ nI d then (some v2_1) else (some (-6 : Int32)))) a (nI i) = some (nI n0) := by
      intro a
      induction a with
      | zero => intro i a1 a2; omega
      | succ a ih =>
        intro i a1 a2
        rw [xt_X9_lowestWith_l2, lit 0, if_neg (by rw [nI_ltI (by omega) (by omega)]; omega), xgd_in (xin rfl (show i < 4096 by omega) (by decide)), cl (by omega), h i (by omega), nI_1]
        by_cases c : i = n0
        · rw [if_pos (by rw [c, h2]; rfl), if_pos (by rw [ble _ _ (by omega) (by omega)]; omega), c]
        · rw [if_neg (by
            rw [dI_eq (fun x hx => by have := Dn_lt hx; omega) (by omega)]
            exact h3 i (by omega))]
          exact ih (i + 1) (by omega) (by omega)
    exact go 10000 0 (by omega) (by omega)
theorem dI_inj {a b : Option Nat} (ha : ∀ x, a = some x → x < 2 ^ 31) (hb : ∀ x, b = some x → x < 2 ^ 31) : dI a = dI b ↔ a = b := by
  cases b with
  | none =>
    cases a with
    | none => exact ⟨fun _ => rfl, fun _ => rfl⟩
    | some x => exact ⟨fun h => absurd h (nI_m6 (ha x rfl)), fun h => by cases h⟩
  | some y => exact dI_eq ha (hb y rfl)
theorem standingWith_ok {m : Mem} {s B : Nat} (h : M38 s B m) (h9 : M39 B m) {o : Option Nat} (ho : ∀ x, o = some x → x < 2 ^ 31) : xt_X9_standingWith (dI o) m = some (nI (cntE (fun n => St B n && decide (Dn s B n = o)) 4096)) := by
  unfold xt_X9_standingWith
  have key := lup (fun n (q : Int32) v => xt_X9_standingWith_l4 (dI o) m (fun (v2_1 : Int32) => (some v2_1)) n q v) (fun q => some q) 4096
    (fun i q => q = nI (cntE (fun n => St B n && decide (Dn s B n = o)) i))
    (fun n q _ => by
      show xt_X9_standingWith_l4 _ _ _ (n + 1) q (nI 4096) = _
      rw [xt_X9_standingWith_l4, if_pos (show (4096 : Int32) ≤ nI 4096 by decide)])
    (fun n i q hi hI => by
      show ∃ s', _ ∧ xt_X9_standingWith_l4 _ _ _ (n + 1) q (nI i) = _
      have v : vp_in (nI i) 4096 := xin rfl hi (by decide)
      rw [xt_X9_standingWith_l4, lit 4096, if_neg (by rw [ble _ _ (by omega) (by omega)]; omega), xgd_in v, cl (by omega), xgd_in v, nI_1, hI, h i hi, count_s]
      have hF := FS_St hi h9
      have hD := dI_inj (a := Dn s B i) (b := o) (fun x hx => by have := Dn_lt hx; omega) ho
      cases c : St B i
      · rw [if_neg (show ¬ m 39 i = nI i from fun z => by rw [hF.mp z] at c; cases c), lit 0, nI_add]
        exact ⟨_, rfl, rfl⟩
      · rw [if_pos (hF.mpr c)]
        by_cases c2 : Dn s B i = o
        · rw [if_pos (hD.mpr c2), lit 1, nI_add, decide_eq_true c2]
          exact ⟨_, rfl, rfl⟩
        · rw [if_neg (mt hD.mp c2), lit 0, nI_add, decide_eq_false c2]
          exact ⟨_, rfl, rfl⟩)
    10000 0 (0 : Int32) (by omega) (by omega) rfl
  obtain ⟨q, h1, h2⟩ := key
  subst h1; exact h2
def R42 (s B : Nat) (m : Mem) : Prop := ∀ key, key < 98 → m 42 key = tld s B key
theorem isException_ok {m : Mem} {s B : Nat} (hp : PE m) (h : M38 s B m) (h9 : M39 B m) (hr : R42 s B m) {n : Nat} (hn : n < 4096) : xt_X9_isException (nI n) m = some (bI (exc s B n)) := by
  unfold xt_X9_isException
  have v : vp_in (nI n) 4096 := xin rfl hn (by decide)
  rw [xgd_in v, cl (by omega), xgd_in v]
  have hF := FS_St hn h9
  cases c : St B n
  · rw [if_neg (show ¬ m 39 n = nI n from fun z => by rw [hF.mp z] at c; cases c), exc_St c]; rfl
  · have hk := kyN_lt hn (St_120 c)
    rw [if_pos (hF.mpr c), mkey_ok hp hn (St_120 c), Option.bind_some, xgd_in (xin rfl hk (by decide)), cl (by omega), hr _ hk, h n hn]
    unfold exc
    rw [c, Bool.true_and]
    by_cases c2 : dI (Dn s B n) = tld s B (kyN n)
    · rw [if_pos c2, decide_eq_true c2]; rfl
    · rw [if_neg c2, decide_eq_false c2]; rfl
theorem exceptions_ok {m : Mem} {s B : Nat} (hp : PE m) (h : M38 s B m) (h9 : M39 B m) (hr : R42 s B m) : xt_X9_exceptions m = some (nI (cntE (exc s B) 4096)) := by
  unfold xt_X9_exceptions
  have key := lup (fun n (q : Int32) v => xt_X9_exceptions_l4 m (fun (v1_2 : Int32) => (some v1_2)) n q v) (fun q => some q) 4096
    (fun i q => q = nI (cntE (exc s B) i))
    (fun n q _ => by
      show xt_X9_exceptions_l4 _ _ (n + 1) q (nI 4096) = _
      rw [xt_X9_exceptions_l4, if_pos (show (4096 : Int32) ≤ nI 4096 by decide)])
    (fun n i q hi hI => by
      show ∃ s', _ ∧ xt_X9_exceptions_l4 _ _ (n + 1) q (nI i) = _
      rw [xt_X9_exceptions_l4, lit 4096, if_neg (by rw [ble _ _ (by omega) (by omega)]; omega), isException_ok hp h h9 hr hi, Option.bind_some, nI_1, hI, count_s]
      cases exc s B i
      · rw [if_pos (show bI false = 0 by decide), lit 0, nI_add]; exact ⟨_, rfl, rfl⟩
      · rw [if_neg (show ¬ bI true = 0 by decide), lit 1, nI_add]; exact ⟨_, rfl, rfl⟩)
    10000 0 (0 : Int32) (by omega) (by omega) rfl
  obtain ⟨q, h1, h2⟩ := key
  subst h1; exact h2
theorem runs_ok {m : Mem} {s B : Nat} (hp : PE m) (h : M38 s B m) (h9 : M39 B m) (hr : R42 s B m) (x : Int32) (k : Int32 → Int32 → Option Int32) :
    xt_X9_runs_l10 x m k 10000 (0 : Int32) (0 : Int32) (0 : Int32) (0 : Int32) = k (nI (rn (St B) (exc s B) 4096).1) (nI (rn (St B) (exc s B) 4096).2.2) := by
  have key := lup (fun n (q : Int32 × Int32 × Int32) v => xt_X9_runs_l10 x m k n q.1 q.2.1 q.2.2 v) (fun q => k q.1 q.2.2) 4096
    (fun i q => q = (nI (rn (St B) (exc s B) i).1, nI (rn (St B) (exc s B) i).2.1, nI (rn (St B) (exc s B) i).2.2))
    (fun n q _ => by
      show xt_X9_runs_l10 _ _ _ (n + 1) q.1 q.2.1 q.2.2 (nI 4096) = _
      rw [xt_X9_runs_l10, if_pos (show (4096 : Int32) ≤ nI 4096 by decide)])
    (fun n i q hi hI => by
      subst hI
      show ∃ s', _ ∧ xt_X9_runs_l10 _ _ _ (n + 1) (nI (rn (St B) (exc s B) i).1) (nI (rn (St B) (exc s B) i).2.1) (nI (rn (St B) (exc s B) i).2.2) (nI i) = _
      have rl := rn_le (St B) (exc s B) i
      have hF := FS_St hi h9
      rw [xt_X9_runs_l10, lit 4096, if_neg (by rw [ble _ _ (by omega) (by omega)]; omega), xgd_in (xin rfl hi (by decide)), cl (by omega), isException_ok hp h h9 hr hi, Option.bind_some, nI_1, nI_1, rn]
      generalize rn (St B) (exc s B) i = t at *
      obtain ⟨a, b, c⟩ := t
      dsimp only at rl ⊢
      cases c1 : St B i
      · rw [if_neg (show ¬ m 39 i = nI i from fun z => by rw [hF.mp z] at c1; cases c1), if_neg (show ¬ (false = true) by decide)]
        exact ⟨_, rfl, rfl⟩
      · rw [if_pos (hF.mpr c1), if_pos (show true = true from rfl)]
        cases c2 : exc s B i
        · rw [if_pos (show bI false = 0 by decide), if_neg (show ¬ (false = true) by decide), lit 0, greater_ok (by omega) (by omega), Option.bind_some, nI_add]
          refine ⟨_, rfl, ?_⟩
          dsimp only
          rw [Nat.add_zero, Nat.max_eq_left (Nat.zero_le _)]
        · rw [if_neg (show ¬ bI true = 0 by decide), if_pos (show true = true from rfl), greater_ok (by omega) (by omega), Option.bind_some, Option.bind_some]
          refine ⟨_, rfl, ?_⟩
          dsimp only
          by_cases c3 : b = 0
          · rw [if_pos (show nI (b + 1) = 1 by rw [c3]; rfl), if_pos c3, nI_1]
          · rw [if_neg (show ¬ nI (b + 1) = 1 by rw [lit 1, nI_eq (by omega) (by omega)]; omega), if_neg c3, lit 0, nI_add]; rfl)
    10000 0 ((0 : Int32), (0 : Int32), (0 : Int32)) (by omega) (by omega) rfl
  obtain ⟨q, h1, h2⟩ := key
  subst h1; exact h2
theorem bIor (a b : Bool) : bI a ||| bI b = bI (a || b) := by cases a <;> cases b <;> decide
theorem blocks_ok {m : Mem} {s B : Nat} (hp : PE m) (h : M38 s B m) (h9 : M39 B m) (hr : R42 s B m) : xt_X9_blocks m = some (nI (cntE (fbl (exc s B)) 4096)) := by
  unfold xt_X9_blocks
  have inner : ∀ (x1 : Int32) (b : Nat) (K : Int32 → Option Int32), b < 64 → xt_X9_blocks_l15 x1 (nI b) m K 10000 (0 : Int32) (0 : Int32) = K (bI (blk (exc s B) b)) := by
    intro x1 b K hb
    have key := lup (fun n (q : Int32) v => xt_X9_blocks_l15 x1 (nI b) m K n q v) K 64
      (fun i q => q = bI ((List.range i).any (fun j => exc s B (64 * b + j))))
      (fun n q _ => by
        show xt_X9_blocks_l15 _ _ _ _ (n + 1) q (nI 64) = _
        rw [xt_X9_blocks_l15, if_pos (show (64 : Int32) ≤ nI 64 by decide)])
      (fun n i q hi hI => by
        show ∃ s', _ ∧ xt_X9_blocks_l15 _ _ _ _ (n + 1) q (nI i) = _
        rw [xt_X9_blocks_l15, lit 64, if_neg (by rw [ble _ _ (by omega) (by omega)]; omega), pk_mul, nI_add, isException_ok hp h h9 hr (show 64 * b + i < 4096 by omega), Option.bind_some, nI_1, hI, bIor, List.range_succ, List.any_append]
        refine ⟨_, ?_, rfl⟩
        simp)
      10000 0 (0 : Int32) (by omega) (by omega) rfl
    obtain ⟨q, h1, h2⟩ := key
    subst h1; exact h2
  have key := lup (fun n (q : Int32) v => xt_X9_blocks_l4 m (fun (v1_3 : Int32) => (some v1_3)) n q v) (fun q => some q) 64
    (fun i q => q = nI (cntE (blk (exc s B)) i))
    (fun n q _ => by
      show xt_X9_blocks_l4 _ _ (n + 1) q (nI 64) = _
      rw [xt_X9_blocks_l4, if_pos (show (64 : Int32) ≤ nI 64 by decide)])
    (fun n i q hi hI => by
      show ∃ s', _ ∧ xt_X9_blocks_l4 _ _ (n + 1) q (nI i) = _
      rw [xt_X9_blocks_l4, lit 64, if_neg (by rw [ble _ _ (by omega) (by omega)]; omega), inner _ i _ hi, nI_1, hI, count_s]
      cases blk (exc s B) i
      · rw [if_pos (show bI false = 0 by decide), lit 0, nI_add]; exact ⟨_, rfl, rfl⟩
      · rw [if_neg (show ¬ bI true = 0 by decide), lit 1, nI_add]; exact ⟨_, rfl, rfl⟩)
    10000 0 (0 : Int32) (by omega) (by omega) rfl
  obtain ⟨q, h1, h2⟩ := key
  subst h1
  rw [show (4096 : Nat) = 64 * 64 from rfl, fbl_blk]
  exact h2
theorem keys_ok {m : Mem} {s B : Nat} (hr : R42 s B m) : xt_X9_keys m = some (nI (used s B)) := by
  unfold xt_X9_keys
  have key := lup (fun n (q : Int32) v => xt_X9_keys_l4 m (fun (v1_1 : Int32) => (some v1_1)) n q v) (fun q => some q) 98
    (fun i q => q = nI (cntE (fun key => !decide (tld s B key = -1)) i))
    (fun n q _ => by
      show xt_X9_keys_l4 _ _ (n + 1) q (nI 98) = _
      rw [xt_X9_keys_l4, if_pos (show (98 : Int32) ≤ nI 98 by decide)])
    (fun n i q hi hI => by
      show ∃ s', _ ∧ xt_X9_keys_l4 _ _ (n + 1) q (nI i) = _
      rw [xt_X9_keys_l4, lit 98, if_neg (by rw [ble _ _ (by omega) (by omega)]; omega), xgd_in (xin rfl hi (by decide)), cl (by omega), hr i hi, nI_1, hI, count_s]
      by_cases c : tld s B i = -1
      · rw [if_pos c, decide_eq_true c, lit 0, nI_add]; exact ⟨_, rfl, rfl⟩
      · rw [if_neg c, decide_eq_false c, lit 1, nI_add]; exact ⟨_, rfl, rfl⟩)
    10000 0 (0 : Int32) (by omega) (by omega) rfl
  obtain ⟨q, h1, h2⟩ := key
  subst h1; exact h2
