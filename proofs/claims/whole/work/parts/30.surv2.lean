/-! ===== the class counts exceptions ===== -/
theorem cntE_skip {q : Nat → Bool} {a : Nat} : ∀ d, (∀ j, a ≤ j → j < a + d → q j = false) → cntE q (a + d) = cntE q a := by
  intro d
  induction d with
  | zero => intro _; rfl
  | succ d ih =>
    intro h
    show cntE q (a + d) + (if q (a + d) = true then 1 else 0) = _
    rw [h (a + d) (by omega) (by omega), ih (fun j h1 h2 => h j h1 (by omega))]; rfl
theorem cntE_sk {q : Nat → Bool} {a b : Nat} (hab : a ≤ b) (h : ∀ j, a ≤ j → j < b → q j = false) : cntE q b = cntE q a := by
  have := cntE_skip (q := q) (a := a) (b - a) (fun j h1 h2 => h j h1 (by omega))
  rwa [show a + (b - a) = b by omega] at this
theorem rn_sk {st ex : Nat → Bool} {a b : Nat} (hab : a ≤ b) (h : ∀ j, a ≤ j → j < b → st j = false) : rn st ex b = rn st ex a := by
  have := rn_skip (st := st) (ex := ex) (a := a) (b - a) (fun j h1 h2 => h j h1 (by omega))
  rwa [show a + (b - a) = b by omega] at this
theorem exc_St {s B n : Nat} (h : St B n = false) : exc s B n = false := by unfold exc; rw [h]; rfl
theorem fbl_ex {ex : Nat → Bool} {n : Nat} (h : ex n = false) : fbl ex n = false := by unfold fbl; rw [h]; rfl
/-- the block of the last exception -/
def lastB (ex : Nat → Bool) (N : Nat) (v : Int32) : Prop := (v = -1 ∧ ∀ n, n < N → ex n = false) ∨ ∃ e, e < N ∧ ex e = true ∧ v = nI (e / 64) ∧ ∀ n, e < n → n < N → ex n = false
theorem lastB_sk {ex : Nat → Bool} {a b : Nat} {v : Int32} (hab : a ≤ b) (h : ∀ j, a ≤ j → j < b → ex j = false) (hl : lastB ex a v) : lastB ex b v := by
  rcases hl with ⟨h1, h2⟩ | ⟨e, h1, h2, h3, h4⟩
  · exact Or.inl ⟨h1, fun n hn => by
      rcases Nat.lt_or_ge n a with z | z
      · exact h2 n z
      · exact h n z hn⟩
  · exact Or.inr ⟨e, by omega, h2, h3, fun n h5 h6 => by
      rcases Nat.lt_or_ge n a with z | z
      · exact h4 n h5 z
      · exact h n z h6⟩
theorem lastB_new {ex : Nat → Bool} {n : Nat} {v : Int32} (hn : n < 4096) (hl : lastB ex n v) (he : ex n = true) : (v = nI (n / 64) ↔ fbl ex n = false) := by
  unfold fbl
  rw [he, Bool.true_and]
  have any_iff : ((List.range (n % 64)).any (fun j => ex (64 * (n / 64) + j))) = true ↔ ∃ j, j < n % 64 ∧ ex (64 * (n / 64) + j) = true := by
    rw [List.any_eq_true]
    exact ⟨fun ⟨j, h1, h2⟩ => ⟨j, List.mem_range.mp h1, h2⟩, fun ⟨j, h1, h2⟩ => ⟨j, List.mem_range.mpr h1, h2⟩⟩
  rw [Bool.not_eq_false', any_iff]
  rcases hl with ⟨h1, h2⟩ | ⟨e, h1, h2, h3, h4⟩
  · rw [h1]
    constructor
    · intro h; exact absurd h.symm (nI_m1 (by omega))
    · rintro ⟨j, j1, j2⟩
      rw [h2 _ (by omega)] at j2; cases j2
  · rw [h3, nI_eq (by omega) (by omega)]
    constructor
    · intro h
      refine ⟨e % 64, by omega, ?_⟩
      rw [show 64 * (n / 64) + e % 64 = e by omega]; exact h2
    · rintro ⟨j, j1, j2⟩
      rcases Nat.lt_or_ge e (64 * (n / 64) + j) with z | z
      · rw [h4 _ z (by omega)] at j2; cases j2
      · omega
/-- what is counted when the numbers below N are gone through -/
def XT (s B N : Nat) (m0 q : Mem) : Prop := q 16 6 = nI (cntE (exc s B) N) ∧ q 16 7 = nI (rn (St B) (exc s B) N).1 ∧ q 16 8 = nI (cntE (fbl (exc s B)) N) ∧ q 16 9 = nI (rn (St B) (exc s B) N).2.2 ∧
  ∀ k, k ≠ 6 → k ≠ 7 → k ≠ 8 → k ≠ 9 → q 16 k = m0 16 k
theorem XT.c {s B N : Nat} {m0 q q' : Mem} (h : XT s B N m0 q) (e : q' 16 = q 16) : XT s B N m0 q' := by unfold XT; rw [e]; exact h
theorem XT_sk {s B a b : Nat} {m0 q : Mem} (hab : a ≤ b) (h : ∀ j, a ≤ j → j < b → St B j = false) (hq : XT s B a m0 q) : XT s B b m0 q := by
  unfold XT
  rw [cntE_sk hab (fun j h1 h2 => exc_St (h j h1 h2)), rn_sk hab h, cntE_sk hab (fun j h1 h2 => fbl_ex (exc_St (h j h1 h2)))]
  exact hq
theorem countExceptions_ok {m : Mem} (hg : GE m) {s B : Nat} (hd : DE s B m) (ht : TE s B m) (h1 : m 16 1 = nI (cntE (St B) 4096)) (hst : ∀ n, n < 4096 → St B n = true → m 17 (cntE (St B) n) = nI n)
    (z6 : m 16 6 = 0) (z7 : m 16 7 = 0) (z8 : m 16 8 = 0) (z9 : m 16 9 = 0) : ∃ o, xt_X7_countExceptions m = some o ∧ XT s B 4096 m o ∧ ∀ r, [16].contains r = false → o r = m r := by
  unfold xt_X7_countExceptions
  have hT : cntE (St B) 4096 ≤ 4096 := cntE_le _ _
  have key := lup (fun n (q : Int32 × Int32 × Mem) v => xt_X7_countExceptions_l6 m (fun (m_6 : Mem) => (some (mgs m [16] m_6))) n q.1 q.2.1 v q.2.2) (fun q => some (mgs m [16] (mgs m [16] q.2.2))) (cntE (St B) 4096)
    (fun i q => ∃ N, N ≤ 4096 ∧ cntE (St B) N = i ∧ q.1 = nI (rn (St B) (exc s B) N).2.1 ∧ lastB (exc s B) N q.2.1 ∧ XT s B N m q.2.2)
    (fun n q hI => by
      obtain ⟨N, N1, N2, N3, N4, N5⟩ := hI
      show xt_X7_countExceptions_l6 _ _ (n + 1) q.1 q.2.1 (nI _) q.2.2 = _
      rw [xt_X7_countExceptions_l6, xgd_in (by unfold vp_in; decide), tc1, N5.2.2.2.2 1 (by omega) (by omega) (by omega) (by omega), h1, if_pos (Int32.le_refl _)])
    (fun n i q hi hI => by
      obtain ⟨N, N1, N2, N3, N4, N5⟩ := hI
      show ∃ s', _ ∧ xt_X7_countExceptions_l6 _ _ (n + 1) q.1 q.2.1 (nI i) q.2.2 = _
      obtain ⟨w, w1, w2, w3, w4, w5⟩ := cntE_next (q := St B) (a := N) (b := 4096) (by omega)
      have hw120 := St_120 w3
      have hkw := kyN_lt w2 hw120
      have e17 : m 17 i = nI w := by rw [← hst w w2 w3, w5, N2]
      have X := XT_sk (s := s) w1 w4 N5
      have L := lastB_sk w1 (fun j a b => exc_St (s := s) (w4 j a b)) N4
      have R : q.1 = nI (rn (St B) (exc s B) w).2.1 := by rw [N3, rn_sk w1 w4]
      have cw : cntE (St B) (w + 1) = i + 1 := by
        show cntE (St B) w + (if St B w = true then 1 else 0) = _
        rw [w5, N2, if_pos w3]
      rw [xt_X7_countExceptions_l6, xgd_in (by unfold vp_in; decide), tc1, N5.2.2.2.2 1 (by omega) (by omega) (by omega) (by omega), h1, if_neg (by rw [ble _ _ (by omega) (by omega)]; omega), show Int32.ofNat 4096 = nI 4096 from rfl, if_neg (by rw [ble _ _ (by omega) (by omega)]; omega), xgd_in (xin rfl (show i < 4096 by omega) (by decide)), cl (by omega), e17, at_ok hd w2, Option.bind_some, keyOf_ok hg w2 hw120, Option.bind_some, told_ok ht hkw, Option.bind_some, nI_1, lit 64, pk_div (by omega) (by omega) (by omega)]
      have rl := rn_le (St B) (exc s B) w
      have rs : rn (St B) (exc s B) (w + 1) = if exc s B w then ((if (rn (St B) (exc s B) w).2.1 = 0 then (rn (St B) (exc s B) w).1 + 1 else (rn (St B) (exc s B) w).1), (rn (St B) (exc s B) w).2.1 + 1, max (rn (St B) (exc s B) w).2.2 ((rn (St B) (exc s B) w).2.1 + 1)) else ((rn (St B) (exc s B) w).1, 0, (rn (St B) (exc s B) w).2.2) := by
        rw [rn, if_pos w3]
      by_cases c : dI (Dn s B w) = tld s B (kyN w)
      · rw [if_pos c]
        have he : exc s B w = false := by unfold exc; rw [w3, decide_eq_true c]; rfl
        rw [he, if_neg (by decide)] at rs
        refine ⟨(0, q.2.1, mgs m [16] q.2.2), ⟨w + 1, by omega, cw, ?_, ?_, ?_⟩, rfl⟩
        · show (0 : Int32) = _
          rw [rs]; rfl
        · exact lastB_sk (by omega) (fun j a b => by rw [show j = w by omega]; exact he) L
        · have Y : XT s B (w + 1) m q.2.2 := by
            obtain ⟨x1, x2, x3, x4, x5⟩ := X
            refine ⟨?_, ?_, ?_, ?_, x5⟩
            · show _ = nI (cntE _ w + (if exc s B w = true then 1 else 0))
              rw [he]; exact x1
            · rw [rs]; exact x2
            · show _ = nI (cntE _ w + (if fbl (exc s B) w = true then 1 else 0))
              rw [fbl_ex he]; exact x3
            · rw [rs]; exact x4
          exact Y.c rfl
      · rw [if_neg c]
        have he : exc s B w = true := by unfold exc; rw [w3, decide_eq_false c]; rfl
        rw [he, if_pos rfl] at rs
        have hnew := lastB_new w2 L he
        have hlast : lastB (exc s B) (w + 1) (nI (w / 64)) := Or.inr ⟨w, by omega, he, rfl, fun n a b => absurd b (by omega)⟩
        have X2 : XT s B w m (mgs m [16] q.2.2) := X.c (mgs_i _ _ (by decide))
        have fin : ∀ nb : Bool, fbl (exc s B) w = nb → ∃ s' : Int32 × Int32 × Mem, (∃ N, N ≤ 4096 ∧ cntE (St B) N = i + 1 ∧ s'.1 = nI (rn (St B) (exc s B) N).2.1 ∧ lastB (exc s B) N s'.2.1 ∧ XT s B N m s'.2.2) ∧
            (Option.bind (xt_X7_countException (q.1 + 1) (bI nb) (mgs m [16] q.2.2)) (fun (o_4 : Mem) => (xt_X7_countExceptions_l6 m (fun (m_6 : Mem) => (some (mgs m [16] m_6))) n (q.1 + (1 : Int32)) (nI (w / 64)) (nI (i + 1)) (mgs m [16] o_4)))) = xt_X7_countExceptions_l6 m (fun (m_6 : Mem) => (some (mgs m [16] m_6))) n s'.1 s'.2.1 (nI (i + 1)) s'.2.2 := by
          intro nb hnb
          obtain ⟨x1, x2, x3, x4, x5⟩ := X2
          rw [R, nI_1]
          obtain ⟨o, o1, o2, o3, o4, o5, o6⟩ := countException_ok (r := (rn (St B) (exc s B) w).2.1 + 1) x1 x2 x3 x4 (by omega) (by omega) nb
          rw [o1, Option.bind_some]
          refine ⟨(_, _, _), ⟨w + 1, by omega, cw, ?_, hlast, ?_⟩, rfl⟩
          · show nI ((rn (St B) (exc s B) w).2.1 + 1) = _
            rw [rs]
          · have Y : XT s B (w + 1) m o := by
              refine ⟨?_, ?_, ?_, ?_, fun k k6 k7 k8 k9 => ?_⟩
              · rw [o2]
                show _ = nI (cntE _ w + (if exc s B w = true then 1 else 0))
                rw [if_pos he]
              · rw [o3, rs]
                dsimp only
                by_cases c0 : (rn (St B) (exc s B) w).2.1 = 0
                · rw [if_pos (by omega), if_pos c0]
                · rw [if_neg (by omega), if_neg c0]
              · rw [o4]
                show _ = nI (cntE _ w + (if fbl (exc s B) w = true then 1 else 0))
                rw [hnb]
              · rw [o5, rs]
              · rw [o6 k k6 k7 k8 k9]; exact x5 k k6 k7 k8 k9
            exact Y.c rfl
        by_cases c2 : q.2.1 = nI (w / 64)
        · rw [if_pos c2]
          exact fin false (hnew.mp c2)
        · rw [if_neg c2]
          exact fin true (by rw [← Bool.not_eq_false]; exact mt hnew.mpr c2))
    10000 0 ((0 : Int32), (-1 : Int32), m) (by omega) (by omega)
    ⟨0, by omega, rfl, rfl, Or.inl ⟨rfl, fun n hn => absurd hn (by omega)⟩, z6, z7, z8, z9, fun _ _ _ _ _ => rfl⟩
  obtain ⟨q, ⟨N, N1, N2, N3, N4, N5⟩, h3⟩ := key
  have h3' : xt_X7_countExceptions_l6 m _ 10000 (0 : Int32) (-1 : Int32) (0 : Int32) m = _ := h3
  rw [h3']
  refine ⟨_, rfl, ?_, fun r hr => mgs_o _ _ hr⟩
  have : XT s B 4096 m q.2.2 := XT_sk N1 (cntE_none N1 N2) N5
  refine this.c ?_
  rw [mgs_i _ _ (by decide), mgs_i _ _ (by decide)]
/-! ===== the class's survey ===== -/
def SD (s B : Nat) (m : Mem) : Prop := m 16 0 = nI (cntE (isPos B) 4096) ∧ m 16 1 = nI (cntE (St B) 4096) ∧ m 16 2 = nI (Wl B 8).length ∧ m 16 3 = gI1 (grt (Dn s B) 4096) ∧ m 16 4 = gI2 (grt (Dn s B) 4096) ∧
  m 16 5 = nI (cntE (fun n => St B n && decide (Dn s B n = none)) 4096) ∧ m 16 6 = nI (cntE (exc s B) 4096) ∧ m 16 7 = nI (rn (St B) (exc s B) 4096).1 ∧ m 16 8 = nI (cntE (fbl (exc s B)) 4096) ∧ m 16 9 = nI (rn (St B) (exc s B) 4096).2.2 ∧
  m 16 10 = nI (used s B) ∧ CT s B m ∧ TE s B m
def SE (m : Mem) : Prop := m 15 7 = -1 ∨ ∃ s B, VC s B ∧ m 15 7 = nI (sgn s B) ∧ SD s B m
theorem CE.c {m m' : Mem} (h : CE m) (e1 : m' 9 = m 9) (e2 : m' 10 = m 10) : CE m' := by unfold CE; rw [e1, e2]; exact h
theorem FE.c {m m' : Mem} (h : FE m) (e1 : m' 13 = m 13) (e2 : m' 14 = m 14) : FE m' := by unfold FE KE; rw [e1, e2]; exact h
theorem TE.c {s B : Nat} {m m' : Mem} (h : TE s B m) (e : m' 19 = m 19) : TE s B m' := by unfold TE; rw [e]; exact h
theorem surveyPrep_ok {m : Mem} {c : Nat → Int32} {g : Nat → Nat} (hg : GE m) (hce : CE m) (hfe : FE m) (hse : SE m) (hc : StC c g) (hv : VS g) (hb : ∀ s B, VC s B → Bd s B) :
    ∃ o, xt_X7_prepare c m = some o ∧ CE o ∧ FE o ∧ SE o ∧ SD (sOf g) (g 3) o ∧ ∀ r, [9, 10, 11, 12, 13, 14, 15, 16, 17, 18, 19].contains r = false → o r = m r := by
  unfold xt_X7_prepare
  rw [signOf_ok hc hv, Option.bind_some]
  by_cases e : m 15 7 = nI (sgn (sOf g) (g 3))
  · rw [if_pos e]
    refine ⟨m, rfl, hce, hfe, hse, ?_, fun _ _ => rfl⟩
    rcases hse with h | ⟨s, B, h1, h2, h3⟩
    · rw [h] at e; exact absurd e.symm (nI_m1 (sgn_lt hv.2.1))
    · rw [h2, nI_eq (sgn_lt h1) (sgn_lt hv.2.1)] at e
      obtain ⟨rfl, e2⟩ := sgn_inj h1.2.1 hv.2.1.2.1 e
      rw [← e2]; exact h3
  · rw [if_neg e, Option.bind_some]
    obtain ⟨o3, p1, p2, p3, p4⟩ := prepare_ok hg hce hc hv hb
    rw [p1, Option.bind_some, hc.2.1]
    obtain ⟨o4, f1, f2, f3, f4⟩ := foldPrep_ok hg hfe (B := g 3) hv.2.1.2.1
    rw [f1, Option.bind_some]
    obtain ⟨t16, a1, a2⟩ := fill_ok (N := 11) (by omega) (0 : Int32) (m 16)
    obtain ⟨t18, b1, b2⟩ := fill_ok (N := 6272) (by omega) (0 : Int32) (m 18)
    rw [a1, Option.bind_some, b1, Option.bind_some]
    have hsy : xt_X1_symmetries (mgs m [13] o4) = some (nI (Wl (g 3) 8).length) := by
      unfold xt_X1_symmetries
      rw [mgs_i _ _ (by decide), f3.1, nI_1, WKlen]
    rw [hsy, Option.bind_some, xgd_in (by unfold vp_in; decide), tc2]
    have hA : ∃ mA : Mem, mA = (mgs (mgs (mset (mset (mset m 15 (upd (m 15) 7 (nI (sgn (sOf g) (g 3))))) 16 (upd t16 2 (nI (Wl (g 3) 8).length))) 18 t18) [9, 10] o3) [13, 14] o4) := ⟨_, rfl⟩
    obtain ⟨mA, hmA⟩ := hA
    rw [← hmA]
    have gA : GE mA := by rw [hmA]; exact ((((hg.mset (by omega)).mset (by omega)).mset (by omega)).mgs (ngr (by decide))).mgs (ngr (by decide))
    have dA : DE (sOf g) (g 3) mA := by rw [hmA]; exact fun n hn => p3 n hn
    have kA : KE (g 3) mA := f3.c (by rw [hmA]; rfl) (by rw [hmA]; rfl)
    have A16 : mA 16 = upd t16 2 (nI (Wl (g 3) 8).length) := by rw [hmA]; rfl
    have A18 : mA 18 = t18 := by rw [hmA]; rfl
    obtain ⟨o8, q1, q2, q3⟩ := goThrough_ok gA hv.2.1.2.1 dA kA (by rw [A16, upd_n _ _ (by omega)]; exact a2 0 (by omega)) (by rw [A16, upd_n _ _ (by omega)]; exact a2 1 (by omega)) (fun i hi => by rw [A18]; exact b2 i hi)
    rw [q1, Option.bind_some]
    have oz : ∀ k, 5 ≤ k → k < 11 → o8 16 k = 0 := fun k h1 h2 => by rw [q2.tk k (by omega) (by omega) (by omega) (by omega), A16, upd_n _ _ (by omega)]; exact a2 k h2
    have o2 : o8 16 2 = nI (Wl (g 3) 8).length := by rw [q2.tk 2 (by omega) (by omega) (by omega) (by omega), A16, upd_s]
    obtain ⟨mB, hmB⟩ : ∃ mB : Mem, mB = (mgs (mset m 15 (upd (m 15) 7 (nI (sgn (sOf g) (g 3))))) [16, 18] o8) := ⟨_, rfl⟩
    rw [← hmB]
    have cB : CT (sOf g) (g 3) mB := by rw [hmB]; exact q2.ct
    have B16 : mB 16 = o8 16 := by rw [hmB]; rfl
    obtain ⟨o9, r1, r2, r3, r4, r5⟩ := makeRule_ok cB (by rw [B16]; exact oz 10 (by omega) (by omega))
    rw [r1, Option.bind_some]
    obtain ⟨mC, hmC⟩ : ∃ mC : Mem, mC = (mgs (mgs (mgs (mset m 15 (upd (m 15) 7 (nI (sgn (sOf g) (g 3))))) [9, 10] o3) [16, 19] o9) [17] o8) := ⟨_, rfl⟩
    rw [← hmC]
    have gC : GE mC := by rw [hmC]; exact (((hg.mset (by omega)).mgs (ngr (by decide))).mgs (ngr (by decide))).mgs (ngr (by decide))
    have dC : DE (sOf g) (g 3) mC := by rw [hmC]; exact fun n hn => p3 n hn
    have tC : TE (sOf g) (g 3) mC := by rw [hmC]; exact r2
    have C16 : mC 16 = o9 16 := by rw [hmC]; rfl
    have C17 : mC 17 = o8 17 := by rw [hmC]; rfl
    have h16 : ∀ k, k ≠ 10 → mC 16 k = o8 16 k := fun k hk => by rw [C16, r4 k hk, B16]
    obtain ⟨oX, x1, x2, x3⟩ := countExceptions_ok gC dC tC (by rw [h16 1 (by omega)]; exact q2.t1) (fun n hn h => by rw [C17]; exact q2.st n hn h)
      (by rw [h16 6 (by omega)]; exact oz 6 (by omega) (by omega)) (by rw [h16 7 (by omega)]; exact oz 7 (by omega) (by omega)) (by rw [h16 8 (by omega)]; exact oz 8 (by omega) (by omega)) (by rw [h16 9 (by omega)]; exact oz 9 (by omega) (by omega))
    rw [x1, Option.bind_some]
    have cD : CT (sOf g) (g 3) (mgs (mset m 15 (upd (m 15) 7 (nI (sgn (sOf g) (g 3))))) [18] o8) := q2.ct
    rw [countWith_none cD, Option.bind_some, xgd_in (by unfold vp_in; decide), tc5]
    have hX : ∀ k, k ≠ 6 → k ≠ 7 → k ≠ 8 → k ≠ 9 → oX 16 k = mC 16 k := x2.2.2.2.2
    obtain ⟨V, hV⟩ : ∃ V : Int32, V = nI (cntE (fun n => St (g 3) n && decide (Dn (sOf g) (g 3) n = none)) 4096) := ⟨_, rfl⟩
    rw [← hV]
    have sd : SD (sOf g) (g 3) (mgs (mgs (mgs (mgs (mset (mset m 15 (upd (m 15) 7 (nI (sgn (sOf g) (g 3))))) 16 (upd (oX 16) 5 V)) [9, 10, 11, 12] o3) [13, 14] o4) [17, 18] o8) [19] o9) := by
      refine ⟨?_, ?_, ?_, ?_, ?_, ?_, ?_, ?_, ?_, ?_, ?_, ?_, ?_⟩
      · show upd (oX 16) 5 V 0 = _
        rw [upd_n _ _ (by omega), hX 0 (by omega) (by omega) (by omega) (by omega), h16 0 (by omega)]; exact q2.t0
      · show upd (oX 16) 5 V 1 = _
        rw [upd_n _ _ (by omega), hX 1 (by omega) (by omega) (by omega) (by omega), h16 1 (by omega)]; exact q2.t1
      · show upd (oX 16) 5 V 2 = _
        rw [upd_n _ _ (by omega), hX 2 (by omega) (by omega) (by omega) (by omega), h16 2 (by omega)]; exact o2
      · show upd (oX 16) 5 V 3 = _
        rw [upd_n _ _ (by omega), hX 3 (by omega) (by omega) (by omega) (by omega), h16 3 (by omega)]; exact q2.t3
      · show upd (oX 16) 5 V 4 = _
        rw [upd_n _ _ (by omega), hX 4 (by omega) (by omega) (by omega) (by omega), h16 4 (by omega)]; exact q2.t4
      · show upd (oX 16) 5 V 5 = _
        rw [upd_s]; exact hV
      · show upd (oX 16) 5 V 6 = _
        rw [upd_n _ _ (by omega)]; exact x2.1
      · show upd (oX 16) 5 V 7 = _
        rw [upd_n _ _ (by omega)]; exact x2.2.1
      · show upd (oX 16) 5 V 8 = _
        rw [upd_n _ _ (by omega)]; exact x2.2.2.1
      · show upd (oX 16) 5 V 9 = _
        rw [upd_n _ _ (by omega)]; exact x2.2.2.2.1
      · show upd (oX 16) 5 V 10 = _
        rw [upd_n _ _ (by omega), hX 10 (by omega) (by omega) (by omega) (by omega), C16]; exact r3
      · exact q2.ct
      · exact r2
    refine ⟨_, rfl, p2.c rfl rfl, f2.c rfl rfl, Or.inr ⟨sOf g, g 3, hv.2.1, rfl, sd⟩, sd, fun r hr => ?_⟩
    have hne : ∀ x, [9, 10, 11, 12, 13, 14, 15, 16, 17, 18, 19].contains x = true → r ≠ x := fun x hx e => by subst e; rw [hr] at hx; cases hx
    have h19 : [19].contains r = false := by simp [hne 19 (by decide)]
    have h17 : [17, 18].contains r = false := by simp [hne 17 (by decide), hne 18 (by decide)]
    have h13 : [13, 14].contains r = false := by simp [hne 13 (by decide), hne 14 (by decide)]
    have h9 : [9, 10, 11, 12].contains r = false := by simp [hne 9 (by decide), hne 10 (by decide), hne 11 (by decide), hne 12 (by decide)]
    rw [mgs_o _ _ h19, mgs_o _ _ h17, mgs_o _ _ h13, mgs_o _ _ h9, mset_n _ _ (hne 16 (by decide)), mset_n _ _ (hne 15 (by decide))]
