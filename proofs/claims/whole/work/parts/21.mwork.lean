/-! ===== the reference works out all distances ===== -/
theorem nI_m6 {a : Nat} (h : a < 2 ^ 31) : nI a ≠ -6 := by
  intro e
  have := congrArg Int32.toInt e
  rw [nI_toInt h] at this
  have h2 : (-6 : Int32).toInt = -6 := by decide
  omega
theorem dI_eq {o : Option Nat} {r : Nat} (ho : ∀ x, o = some x → x < 2 ^ 31) (hr : r < 2 ^ 31) : dI o = nI r ↔ o = some r := by
  cases o with
  | none => exact ⟨fun h => absurd h.symm (nI_m6 hr), fun h => by cases h⟩
  | some x =>
    show nI x = nI r ↔ _
    rw [nI_eq (ho x rfl) hr]
    exact ⟨fun h => by rw [h], fun h => Option.some.inj h⟩
theorem dI_pos {o : Option Nat} (ho : ∀ x, o = some x → x < 2 ^ 31) : 0 ≤ dI o ↔ o ≠ none := by
  cases o with
  | none => exact ⟨fun h => absurd h (by show ¬ (0 : Int32) ≤ -6; decide), fun h => absurd rfl h⟩
  | some x => exact ⟨fun _ h => (by cases h), fun _ => nI_pos' (ho x rfl)⟩
theorem foxG_lt {q : Nat → Option Nat} {s B f p : Nat} (hf : f < 16) (hp : p < 120) (hq : ∀ n, n < 4096 → ∀ d, q n = some d → d < 1000) : ∀ x, foxG q s B f p 16 0 0 = some x → x < 2 ^ 31 := by
  intro x h
  rcases (foxG_some _ _ _ _ h).2.2 with h3 | ⟨t, d, t1, t2, t3, t4, t5⟩
  · omega
  · have := hq _ (by omega) d t4; omega
theorem hunV_lt {q : Nat → Option Nat} {s B f p : Nat} (hf : f < 16) (hp : p < 120) (hq : ∀ n, n < 4096 → ∀ d, q n = some d → d < 1000) : ∀ x, hunV q s B f p = some x → x < 2 ^ 31 := by
  intro x h
  have hl := lohi hp
  unfold hunV at h
  by_cases hc : hCatch s f p = true
  · rw [if_pos hc] at h; cases h; omega
  · rw [if_neg hc] at h
    have l1 := hunG_lt (s := s) (B := B) (a := loP p) hl.2.1 hf hq 16 0 none (by omega) (fun x h => by cases h)
    have l2 := hunG_lt (s := s) (B := B) (a := hiP p) (show loP p < 16 by omega) hf hq 16 0 none (by omega) (fun x h => by cases h)
    generalize hunG q s B f (loP p) (hiP p) 16 0 none = u1 at h l1
    generalize hunG q s B f (hiP p) (loP p) 16 0 none = u2 at h l2
    have l3 := omin_lt l1 l2
    have l4 := omin_lt l3 (hq (2048 + 128 * f + p) (by omega))
    have fin : ∀ u : Option Nat, (∀ x, u = some x → x < 1000) → (match u with | none => none | some x => some (x + 1)) = some x → x < 2 ^ 31 := by
      intro u hu h
      cases u with
      | none => cases h
      | some y => have := hu y rfl; cases h; omega
    have h' : (match (if s.testBit 2 then omin (omin u1 u2) (q (2048 + 128 * f + p)) else omin u1 u2) with | none => none | some x => some (x + 1)) = some x := h
    by_cases c : s.testBit 2 = true
    · rw [if_pos c] at h'; exact fin _ l4 h'
    · rw [if_neg c] at h'; exact fin _ l3 h'
theorem fstK_lt {q : Nat → Bool} {r x : Nat} (h : fstK q r = some x) : x < r := (fstK_le h).1
def fK (s B r n : Nat) : Option Nat := fstK (fun r => Kn s B r n) r
theorem fK_none {s B r n : Nat} : fK s B r n = none ↔ Kn s B r n = false := fstK_none (q := fun r => Kn s B r n) (fun r => Kn_mono1 s B r n) rfl r
theorem QF_of {s B r i : Nat} : QF (fun n => if n < i then fK s B (r + 1) n else fK s B r n) s B r := by
  constructor
  · intro n d _ h
    have h' : (if n < i then fK s B (r + 1) n else fK s B r n) = some d := h
    by_cases c : n < i
    · rw [if_pos c] at h'; exact (fstK_le h').2
    · rw [if_neg c] at h'; exact (fstK_le h').2
  · intro n _ h
    cases e : fK s B r n with
    | none => rw [fK_none] at e; rw [e] at h; cases h
    | some d =>
      have hd := fstK_lt e
      refine ⟨d, hd, ?_⟩
      show (if n < i then fK s B (r + 1) n else fK s B r n) = some d
      by_cases c : n < i
      · rw [if_pos c]; exact fstK_old e
      · rw [if_neg c]; exact e
theorem round_ok {hM : Mem} {g : Nat → Nat} (hp : PE hM) (ha : MA hM g) (hs : g 0 < 2 ∧ g 1 < 2 ∧ g 2 < 2) (hB : g 3 < 65536) {r : Nat} (hr : r < 100) (hd : ∀ n, n < 4096 → hM 38 n = dI (fK (sOf g) (g 3) r n)) :
    ∃ b o, xt_X9_workOut (nI r) hM = some (bI b, o) ∧ (∀ n, n < 4096 → o 38 n = dI (fK (sOf g) (g 3) (r + 1) n)) ∧ (b = false ↔ ∀ n, n < 4096 → Kn (sOf g) (g 3) (r + 1) n = Kn (sOf g) (g 3) r n) := by
  unfold xt_X9_workOut
  have key := lup (fun n (q : Int32 × Mem) v => xt_X9_workOut_l4 (nI r) hM (fun (v2_4 : Int32) (m_5 : Mem) => (xgb v2_4 (some (v2_4, (mgs hM [38] m_5))))) n q.1 v q.2) (fun q => xgb q.1 (some (q.1, (mgs hM [38] (mgs hM [38] q.2))))) 4096
    (fun i q => (∀ n, n < 4096 → q.2 38 n = dI (if n < i then fK (sOf g) (g 3) (r + 1) n else fK (sOf g) (g 3) r n)) ∧ ∃ b, q.1 = bI b ∧ (b = false ↔ ∀ n, n < i → Kn (sOf g) (g 3) (r + 1) n = Kn (sOf g) (g 3) r n))
    (fun n q _ => by
      show xt_X9_workOut_l4 _ _ _ (n + 1) q.1 (nI 4096) q.2 = _
      rw [xt_X9_workOut_l4, if_pos (show (4096 : Int32) ≤ nI 4096 by decide)])
    (fun n i q hi hI => by
      obtain ⟨I1, b, I2, I3⟩ := hI
      show ∃ s', _ ∧ xt_X9_workOut_l4 _ _ _ (n + 1) q.1 (nI i) q.2 = _
      have hvi : vp_in (nI i) 4096 := xin rfl hi (by decide)
      rw [xt_X9_workOut_l4, lit 4096, if_neg (by rw [ble _ _ (by omega) (by omega)]; omega)]
      simp only [xgd_in hvi, cl (show i < 2 ^ 31 by omega), nI_1 i]
      have hlt : ∀ r', r' ≤ 101 → ∀ x n, fK (sOf g) (g 3) r' n = some x → x < 2 ^ 31 := fun r' hr' x n h => by have := fstK_lt h; omega
      -- nothing new at i
      have same : (Kn (sOf g) (g 3) (r + 1) i = Kn (sOf g) (g 3) r i) → ∀ (m' : Mem), m' 38 = q.2 38 → ((∀ n, n < 4096 → m' 38 n = dI (if n < i + 1 then fK (sOf g) (g 3) (r + 1) n else fK (sOf g) (g 3) r n)) ∧ ∃ b, q.1 = bI b ∧ (b = false ↔ ∀ n, n < i + 1 → Kn (sOf g) (g 3) (r + 1) n = Kn (sOf g) (g 3) r n)) := by
        intro hk m' hm'
        refine ⟨fun n hn => ?_, b, I2, ?_⟩
        · rw [hm', I1 n hn]
          by_cases c : n = i
          · subst c
            rw [if_neg (by omega), if_pos (by omega)]
            have : fK (sOf g) (g 3) (r + 1) n = fK (sOf g) (g 3) r n := fstK_eq hk
            rw [this]
          · by_cases c2 : n < i
            · rw [if_pos c2, if_pos (by omega)]
            · rw [if_neg c2, if_neg (by omega)]
        · rw [I3]
          constructor
          · intro h n hn
            by_cases c : n = i
            · subst c; exact hk
            · exact h n (by omega)
          · intro h n hn; exact h n (by omega)
      have hi38 : q.2 38 i = dI (fK (sOf g) (g 3) r i) := by rw [I1 i hi, if_neg (by omega)]
      rw [hi38]
      by_cases c1 : 0 ≤ dI (fK (sOf g) (g 3) r i)
      · rw [if_pos c1]
        have hk : Kn (sOf g) (g 3) r i = true := by
          have := (dI_pos (fun x h => hlt r (by omega) x i h)).mp c1
          rw [ne_eq, fK_none] at this
          simpa using this
        exact ⟨(q.1, mgs hM [38] q.2), same (by rw [hk]; exact Kn_mono1 _ _ _ _ hk) _ rfl, rfl⟩
      · rw [if_neg c1]
        have hk : Kn (sOf g) (g 3) r i = false := by
          have := mt (dI_pos (fun x h => hlt r (by omega) x i h)).mpr c1
          rw [ne_eq, Classical.not_not, fK_none] at this
          exact this
        rw [misPosition_ok hp ha hB hi, Option.bind_some]
        by_cases c2 : isPos (g 3) i = true
        · rw [c2, if_neg (show ¬ bI true = 0 by decide)]
          have hp120 : i % 128 < 120 := by
            rcases Nat.lt_or_ge (i % 128) 120 with z | z
            · exact z
            · rw [nopos120 z] at c2; cases c2
          have hf : i / 128 % 16 < 16 := Nat.mod_lt _ (by omega)
          have hQD : QD (mgs hM [38] q.2) (fun n => if n < i then fK (sOf g) (g 3) (r + 1) n else fK (sOf g) (g 3) r n) := by
            intro n hn
            rw [mgs_i _ _ (by decide)]
            refine ⟨I1 n hn, fun d h => ?_⟩
            have h' : (if n < i then fK (sOf g) (g 3) (r + 1) n else fK (sOf g) (g 3) r n) = some d := h
            by_cases c : n < i
            · rw [if_pos c] at h'; have := fstK_lt h'; omega
            · rw [if_neg c] at h'; have := fstK_lt h'; omega
          have hqq : ∀ n, n < 4096 → ∀ d, (fun n => if n < i then fK (sOf g) (g 3) (r + 1) n else fK (sOf g) (g 3) r n) n = some d → d < 1000 := fun n hn => (hQD n hn).2
          have hPE : PE (mgs hM [38] q.2) := by unfold PE; rw [mgs_o _ _ (by decide), mgs_o _ _ (by decide)]; exact hp
          have hMA : MA (mgs hM [38] q.2) g := fun k hk => by rw [mgs_o _ _ (by decide)]; exact ha k hk
          have done : ∀ v : Option Nat, (∀ x, v = some x → x < 2 ^ 31) → (v = some r ↔ Kn (sOf g) (g 3) (r + 1) i = true) →
              ∃ s' : Int32 × Mem, ((∀ n, n < 4096 → s'.2 38 n = dI (if n < i + 1 then fK (sOf g) (g 3) (r + 1) n else fK (sOf g) (g 3) r n)) ∧ ∃ b, s'.1 = bI b ∧ (b = false ↔ ∀ n, n < i + 1 → Kn (sOf g) (g 3) (r + 1) n = Kn (sOf g) (g 3) r n)) ∧
                (if dI v = nI r then xt_X9_workOut_l4 (nI r) hM (fun (v2_4 : Int32) (m_5 : Mem) => (xgb v2_4 (some (v2_4, (mgs hM [38] m_5))))) n (1 : Int32) (nI (i + 1)) (mset hM 38 (upd (q.2 38) i (dI v))) else xt_X9_workOut_l4 (nI r) hM (fun (v2_4 : Int32) (m_5 : Mem) => (xgb v2_4 (some (v2_4, (mgs hM [38] m_5))))) n q.1 (nI (i + 1)) (mgs hM [38] q.2)) = xt_X9_workOut_l4 (nI r) hM (fun (v2_4 : Int32) (m_5 : Mem) => (xgb v2_4 (some (v2_4, (mgs hM [38] m_5))))) n s'.1 (nI (i + 1)) s'.2 := by
            intro v hv1 hv2
            by_cases c3 : dI v = nI r
            · rw [if_pos c3]
              have hk1 := hv2.mp ((dI_eq hv1 (by omega)).mp c3)
              refine ⟨(1, mset hM 38 (upd (q.2 38) i (dI v))), ⟨fun n hn => ?_, true, rfl, ?_⟩, rfl⟩
              · show mset hM 38 (upd (q.2 38) i (dI v)) 38 n = _
                rw [mset_s]
                unfold upd
                by_cases c : n = i
                · subst c
                  rw [if_pos rfl, if_pos (by omega), c3]
                  have : fK (sOf g) (g 3) (r + 1) n = some r := by
                    unfold fK
                    rw [fstK_new (fK_none.mpr hk), if_pos hk1]
                  rw [this]; rfl
                · rw [if_neg c, I1 n hn]
                  by_cases c2 : n < i
                  · rw [if_pos c2, if_pos (by omega)]
                  · rw [if_neg c2, if_neg (by omega)]
              · constructor
                · intro h; cases h
                · intro h
                  have := h i (by omega)
                  rw [hk1, hk] at this; cases this
            · rw [if_neg c3]
              have hk1 : Kn (sOf g) (g 3) (r + 1) i = false := by
                have := mt (fun z => (dI_eq hv1 (by omega)).mpr (hv2.mpr z)) c3
                simpa using this
              exact ⟨(q.1, mgs hM [38] q.2), same (by rw [hk, hk1]) _ rfl, rfl⟩
          rw [md128 hi, dv128 hi, md16 (show i / 128 < 4096 by omega)]
          by_cases c4 : i < 2048
          · have e : 128 * (i / 128 % 16) + i % 128 = i := by omega
            have hpp : psP (g 3) (i / 128 % 16) (i % 128) = true := by rw [← isPos_h hf hp120, e]; exact c2
            rw [lit 2048, if_neg (by rw [ble _ _ (by omega) (by omega)]; omega), ofHunters_ok hPE hMA hs hB hQD hf hp120, Option.bind_some]
            have hv := hun_val (QF_of (s := sOf g) (B := g 3) (r := r) (i := i)) hf hp120 hpp (by rw [e]; exact hk)
            rw [e] at hv
            exact done _ (hunV_lt hf hp120 hqq) hv
          · have e : 2048 + 128 * (i / 128 % 16) + i % 128 = i := by omega
            have hpp : psP (g 3) (i / 128 % 16) (i % 128) = true := by rw [← isPos_f hf hp120, e]; exact c2
            rw [lit 2048, if_pos (by rw [ble _ _ (by omega) (by omega)]; omega), ofFox_ok hPE hMA hs hB hQD hf hp120, Option.bind_some]
            have hv := fox_val (QF_of (s := sOf g) (B := g 3) (r := r) (i := i)) hf hp120 hpp (by rw [e]; exact hk)
            rw [e] at hv
            exact done _ (foxG_lt hf hp120 hqq) hv
        · have c2' : isPos (g 3) i = false := by simpa using c2
          rw [c2', if_pos (show bI false = 0 by decide)]
          exact ⟨(q.1, mgs hM [38] q.2), same (by rw [Kn_nopos c2', Kn_nopos c2']) _ rfl, rfl⟩)
    10000 0 ((0 : Int32), hM) (by omega) (by omega) ⟨fun n hn => by rw [if_neg (by omega)]; exact hd n hn, false, rfl, by simp⟩
  obtain ⟨⟨v, m'⟩, ⟨I1, b, I2, I3⟩, h2⟩ := key
  have h2' : xt_X9_workOut_l4 (nI r) hM (fun (v2_4 : Int32) (m_5 : Mem) => (xgb v2_4 (some (v2_4, (mgs hM [38] m_5))))) 10000 (0 : Int32) (0 : Int32) hM = _ := h2
  dsimp only at I2
  subst I2
  rw [h2']
  dsimp only
  rw [xgb_in (show bI b &&& 1 = bI b by cases b <;> decide)]
  refine ⟨b, _, rfl, fun n hn => ?_, I3⟩
  have := I1 n hn
  rw [if_pos hn] at this
  rw [mgs_i _ _ (by decide), mgs_i _ _ (by decide)]
  exact this
theorem allRounds {hM : Mem} {g : Nat → Nat} (hp : PE hM) (ha : MA hM g) (hs : g 0 < 2 ∧ g 1 < 2 ∧ g 2 < 2) (hB : g 3 < 65536) (hb : Bd (sOf g) (g 3)) (k : Mem → Option Mem) : ∀ (n r w : Nat) (mM : Mem), r ≤ 30 + w → w ≤ 3 → w ≤ r → 40 - r < n → (∀ n, n < 4096 → mM 38 n = dI (fK (sOf g) (g 3) r n)) →
    (∀ j, j < w → ∀ n, n < 4096 → Kn (sOf g) (g 3) (r - j) n = Kn (sOf g) (g 3) (r - j - 1) n) → ∃ m', xt_X9_workOutAll_l27 hM k n (nI w) (nI r) mM = k (mgs hM [38] m') ∧ ∀ n, n < 4096 → m' 38 n = dI (Dn (sOf g) (g 3) n) := by
  intro n
  induction n with
  | zero => intro r w mM h1 h2 h3 h4; omega
  | succ n ih =>
    intro r w mM h1 h2 h3 h4 hd hw
    rw [xt_X9_workOutAll_l27]
    by_cases c : w = 3
    · subst c
      rw [if_pos (show (3 : Int32) ≤ nI 3 by decide)]
      refine ⟨mM, rfl, fun n hn => ?_⟩
      rw [hd n hn]
      have := Dn_of (s := sOf g) (B := g 3) (n := n) (r := r) (R := r - 2) (by omega) (by omega) (by omega) (fun n hn => by
        have := hw 1 (by omega) n hn
        rw [show r - 1 - 1 = r - 2 by omega, show r - 1 = r - 2 + 1 by omega] at this
        exact this)
      rw [← this]; rfl
    · rw [lit 3, if_neg (by rw [ble _ _ (by omega) (by omega)]; omega)]
      obtain ⟨b, o, e1, e2, e3⟩ := round_ok (hM := mgs hM [38] mM) (g := g) (by unfold PE; rw [mgs_o _ _ (by decide), mgs_o _ _ (by decide)]; exact hp) (fun k hk => by rw [mgs_o _ _ (by decide)]; exact ha k hk) hs hB (r := r) (by omega) (fun n hn => by rw [mgs_i _ _ (by decide)]; exact hd n hn)
      rw [e1, Option.bind_some, nI_1, nI_1]
      cases b
      · rw [if_pos (show bI false = 0 by decide)]
        have hk := e3.mp rfl
        refine ih (r + 1) (w + 1) _ (by omega) (by omega) (by omega) (by omega) (fun n hn => by rw [mgs_i _ _ (by decide)]; exact e2 n hn) (fun j hj n hn => ?_)
        rcases Nat.eq_zero_or_pos j with z | z
        · subst z; exact hk n hn
        · have := hw (j - 1) (by omega) n hn
          rw [show r + 1 - j = r - (j - 1) by omega]
          exact this
      · rw [if_neg (show ¬ bI true = 0 by decide)]
        have hr30 : r < 30 := by
          rcases Nat.lt_or_ge r 30 with z | z
          · exact z
          · exfalso
            have st := Kn_stay (R := 30) (by omega) hb
            have : true = false := e3.mpr (fun n _ => by rw [st (r + 1) (by omega), st r z])
            cases this
        exact ih (r + 1) 0 _ (by omega) (by omega) (by omega) (by omega) (fun n hn => by rw [mgs_i _ _ (by decide)]; exact e2 n hn) (fun j hj => by omega)
theorem workOutAll_ok {m : Mem} {g : Nat → Nat} (hp : PE m) (ha : MA m g) (hs : g 0 < 2 ∧ g 1 < 2 ∧ g 2 < 2) (hB : g 3 < 65536) (hb : Bd (sOf g) (g 3)) : ∃ o, xt_X9_workOutAll m = some o ∧ ∀ n, n < 4096 → o 38 n = dI (Dn (sOf g) (g 3) n) := by
  unfold xt_X9_workOutAll
  have key := lup (fun n (q : Mem) v => xt_X9_workOutAll_l2 m (fun (m_1 : Mem) => (xt_X9_workOutAll_l27 (mgs m [38] m_1) (fun (m_3 : Mem) => (some (mgs m [38] m_3))) 10000 (0 : Int32) (0 : Int32) (mgs m [38] m_1))) n v q) (fun q => xt_X9_workOutAll_l27 (mgs m [38] (mgs m [38] q)) (fun (m_3 : Mem) => (some (mgs m [38] m_3))) 10000 (0 : Int32) (0 : Int32) (mgs m [38] (mgs m [38] q))) 4096
    (fun i q => ∀ j, j < i → q 38 j = -6)
    (fun n q _ => by
      show xt_X9_workOutAll_l2 _ _ (n + 1) (nI 4096) q = _
      rw [xt_X9_workOutAll_l2, if_pos (show (4096 : Int32) ≤ nI 4096 by decide)])
    (fun n i q hi hI => by
      show ∃ s', _ ∧ xt_X9_workOutAll_l2 _ _ (n + 1) (nI i) q = _
      rw [xt_X9_workOutAll_l2, lit 4096, if_neg (by rw [ble _ _ (by omega) (by omega)]; omega), xgd_in (xin rfl hi (by decide)), cl (by omega), nI_1]
      refine ⟨_, fun j hj => ?_, rfl⟩
      rw [mset_s]
      unfold upd
      by_cases c : j = i
      · rw [if_pos c]
      · rw [if_neg c]; exact hI j (by omega))
    10000 0 m (by omega) (by omega) (fun j hj => absurd hj (by omega))
  obtain ⟨q, h1, h2⟩ := key
  have h2' : xt_X9_workOutAll_l2 m _ 10000 (0 : Int32) m = _ := h2
  rw [h2']
  obtain ⟨m', h3, h4⟩ := allRounds (hM := mgs m [38] (mgs m [38] q)) (g := g) (by unfold PE; rw [mgs_o _ _ (by decide), mgs_o _ _ (by decide)]; exact hp) (fun k hk => by rw [mgs_o _ _ (by decide)]; exact ha k hk) hs hB hb (fun (m_3 : Mem) => (some (mgs m [38] m_3))) 10000 0 0 (mgs m [38] (mgs m [38] q)) (by omega) (by omega) (by omega) (by omega)
    (fun n hn => by rw [mgs_i _ _ (by decide), mgs_i _ _ (by decide), h1 n hn]; rfl) (fun j hj => by omega)
  exact ⟨_, h3, fun n hn => h4 n hn⟩
