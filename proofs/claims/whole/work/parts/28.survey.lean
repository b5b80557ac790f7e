/-! ===== the class goes through all positions ===== -/
theorem jmax_ok {a b : Nat} (ha : a < 2 ^ 31) (hb : b < 2 ^ 31) : xt_J9_max_7cf53 (nI a) (nI b) = some (nI (max a b)) := by
  unfold xt_J9_max_7cf53
  by_cases c : a < b
  · rw [if_pos ((nI_ltI ha hb).mpr c), Nat.max_eq_right (by omega)]
  · rw [if_neg (mt (nI_ltI ha hb).mp c), Nat.max_eq_left (by omega)]
theorem keyOf_ok {m : Mem} (hg : GE m) {n : Nat} (hn : n < 4096) (hp : n % 128 < 120) : xt_X3_keyOf (nI n) m = some (nI (kyN n)) := by
  have hl := lohi hp
  have hf : n / 128 % 16 < 16 := Nat.mod_lt _ (by omega)
  have hlo : loP (n % 128) < 16 := by omega
  have f1 := farN_le hf hlo
  have f2 := farN_le hf hl.2.1
  unfold xt_X3_keyOf
  rw [foxOf_ok hn, Option.bind_some, pairIn_ok hn, Option.bind_some, lowerOf_ok hg hp, Option.bind_some, far_ok hf hlo, Option.bind_some, higherOf_ok hg hp, Option.bind_some, far_ok hf hl.2.1, Option.bind_some, whoOf_ok hn, Option.bind_some, jmin_ok (by omega) (by omega), Option.bind_some, jmax_ok (by omega) (by omega), Option.bind_some, lit 49, lit 7, pk_mul, pk_mul, nI_add, nI_add]
  rfl
def DE (s B : Nat) (m : Mem) : Prop := ∀ n, n < 4096 → m 10 n = dI (Dn s B n)
theorem at_ok {m : Mem} {s B n : Nat} (hd : DE s B m) (hn : n < 4096) : xt_X0_at (nI n) m = some (dI (Dn s B n)) := by
  unfold xt_X0_at
  rw [lit 0, if_neg (by rw [nI_ltI (by omega) (by omega)]; omega), lit 4096, if_neg (by rw [ble _ _ (by omega) (by omega)]; omega), xgd_in (xin rfl hn (by decide)), cl (by omega), hd n hn]
def colN (o : Option Nat) : Nat := match o with
  | none => 63
  | some x => x
def colO (c : Nat) : Option Nat := if c = 63 then none else some c
theorem colN_lt {s B n : Nat} : colN (Dn s B n) < 64 := by
  cases e : Dn s B n with
  | none => show 63 < 64; omega
  | some x => have := Dn_lt e; show x < 64; omega
theorem colO_iff {s B n c : Nat} : Dn s B n = colO c ↔ c = colN (Dn s B n) := by
  unfold colO
  cases e : Dn s B n with
  | none =>
    show none = _ ↔ c = 63
    by_cases h : c = 63
    · rw [if_pos h]; exact ⟨fun _ => h, fun _ => rfl⟩
    · rw [if_neg h]; exact ⟨fun z => (by cases z), fun z => absurd z h⟩
  | some x =>
    have := Dn_lt e
    show some x = _ ↔ c = x
    by_cases h : c = 63
    · rw [if_pos h]; exact ⟨fun z => (by cases z), fun z => absurd z (by omega)⟩
    · rw [if_neg h]; exact ⟨fun z => (Option.some.inj z).symm, fun z => by rw [z]⟩
def gI1 (o : Option (Nat × Nat)) : Int32 := match o with
  | none => -6
  | some (d, _) => nI d
def gI2 (o : Option (Nat × Nat)) : Int32 := match o with
  | none => -6
  | some (_, n) => nI n
theorem collect_ok {m : Mem} (hg : GE m) {s B n c : Nat} (hd : DE s B m) (hn : n < 4096) (hp : n % 128 < 120) (h1 : m 16 1 = nI c) (hc : c < 4096) :
    xt_X7_collect (nI n) m = some (mset (mset (mset m 16 (upd (m 16) 1 (nI (c + 1)))) 17 (upd (m 17) c (nI n))) 18 (upd (m 18) (64 * kyN n + colN (Dn s B n)) (m 18 (64 * kyN n + colN (Dn s B n)) + 1))) := by
  unfold xt_X7_collect
  have hk := kyN_lt hn hp
  have v1 : vp_in (1 : Int32) 11 := by unfold vp_in; decide
  rw [at_ok hd hn, Option.bind_some, keyOf_ok hg hn hp, Option.bind_some, Option.bind_some, lit 64, pk_mul]
  simp only [xgd_in v1, show (1 : Int32).toNatClampNeg = 1 from rfl, h1]
  have go : ∀ x : Nat, x < 64 → (if nI (kyN n * 64) + nI x < 0 then some m else (if (Int32.ofNat 6272) ≤ nI (kyN n * 64) + nI x then some m else (if (Int32.ofNat 4096) ≤ nI c then some m else (xgd (nI (kyN n * 64) + nI x) 6272 (xgd (nI (kyN n * 64) + nI x) 6272 (xgd (nI c) 4096 (some (mset (mset (mset m 16 (upd (m 16) 1 (nI c + 1))) 17 (upd (m 17) (nI c).toNatClampNeg (nI n))) 18 (upd (m 18) (nI (kyN n * 64) + nI x).toNatClampNeg (m 18 (nI (kyN n * 64) + nI x).toNatClampNeg + 1)))))))))) = some (mset (mset (mset m 16 (upd (m 16) 1 (nI (c + 1)))) 17 (upd (m 17) c (nI n))) 18 (upd (m 18) (64 * kyN n + x) (m 18 (64 * kyN n + x) + 1))) := by
    intro x hx
    have e : nI (kyN n * 64) + nI x = nI (64 * kyN n + x) := by rw [nI_add, Nat.mul_comm]
    rw [e]
    have v2 : vp_in (nI (64 * kyN n + x)) 6272 := xin rfl (by omega) (by decide)
    have v3 : vp_in (nI c) 4096 := xin rfl hc (by decide)
    rw [lit 0, if_neg (by rw [nI_ltI (by omega) (by omega)]; omega), show Int32.ofNat 6272 = nI 6272 from rfl, if_neg (by rw [ble _ _ (by omega) (by omega)]; omega), show Int32.ofNat 4096 = nI 4096 from rfl, if_neg (by rw [ble _ _ (by omega) (by omega)]; omega), xgd_in v2, xgd_in v2, xgd_in v3, cl (show 64 * kyN n + x < 2 ^ 31 by omega), cl (show c < 2 ^ 31 by omega), nI_1]
  cases e : Dn s B n with
  | none => rw [if_pos (show dI none = -6 from rfl)]; exact go 63 (by omega)
  | some x =>
    have hx := Dn_lt e
    rw [if_neg (show ¬ dI (some x) = -6 from nI_m6 (by omega))]
    exact go x (by omega)
/-- what is known when the numbers below N are gone through -/
def GT (s B N : Nat) (m0 q : Mem) : Prop := q 16 0 = nI (cntE (isPos B) N) ∧ q 16 1 = nI (cntE (St B) N) ∧ q 16 3 = gI1 (grt (Dn s B) N) ∧ q 16 4 = gI2 (grt (Dn s B) N) ∧
  (∀ k, k ≠ 0 → k ≠ 1 → k ≠ 3 → k ≠ 4 → q 16 k = m0 16 k) ∧ (∀ n, n < N → St B n = true → q 17 (cntE (St B) n) = nI n) ∧ (∀ key c, key < 98 → c < 64 → q 18 (64 * key + c) = nI (FN s B key (colO c) N))
theorem GT.t0 {s B N : Nat} {m0 q : Mem} (h : GT s B N m0 q) : q 16 0 = nI (cntE (isPos B) N) := h.1
theorem GT.t1 {s B N : Nat} {m0 q : Mem} (h : GT s B N m0 q) : q 16 1 = nI (cntE (St B) N) := h.2.1
theorem GT.t3 {s B N : Nat} {m0 q : Mem} (h : GT s B N m0 q) : q 16 3 = gI1 (grt (Dn s B) N) := h.2.2.1
theorem GT.t4 {s B N : Nat} {m0 q : Mem} (h : GT s B N m0 q) : q 16 4 = gI2 (grt (Dn s B) N) := h.2.2.2.1
theorem GT.tk {s B N : Nat} {m0 q : Mem} (h : GT s B N m0 q) : ∀ k, k ≠ 0 → k ≠ 1 → k ≠ 3 → k ≠ 4 → q 16 k = m0 16 k := h.2.2.2.2.1
theorem GT.st {s B N : Nat} {m0 q : Mem} (h : GT s B N m0 q) : ∀ n, n < N → St B n = true → q 17 (cntE (St B) n) = nI n := h.2.2.2.2.2.1
theorem GT.ct {s B N : Nat} {m0 q : Mem} (h : GT s B N m0 q) : ∀ key c, key < 98 → c < 64 → q 18 (64 * key + c) = nI (FN s B key (colO c) N) := h.2.2.2.2.2.2
theorem GT.c {s B N : Nat} {m0 q q' : Mem} (h : GT s B N m0 q) (e1 : q' 16 = q 16) (e2 : q' 17 = q 17) (e3 : q' 18 = q 18) : GT s B N m0 q' :=
  ⟨by rw [e1]; exact h.t0, by rw [e1]; exact h.t1, by rw [e1]; exact h.t3, by rw [e1]; exact h.t4, by rw [e1]; exact h.tk, by rw [e2]; exact h.st, by rw [e3]; exact h.ct⟩
theorem DE.c {s B : Nat} {m m' : Mem} (h : DE s B m) (e : m' 10 = m 10) : DE s B m' := by unfold DE; rw [e]; exact h
theorem KE.c {B : Nat} {m m' : Mem} (h : KE B m) (e1 : m' 13 = m 13) (e2 : m' 14 = m 14) : KE B m' := by unfold KE; rw [e1, e2]; exact h
/-- a step that stands for itself or not -/
theorem gt_rest {hM : Mem} (hg : GE hM) {s B N : Nat} (hd : DE s B hM) (hk : KE B hM) (hN : N < 4096) (hpos : isPos B N = true) {m0 q : Mem} (hq : GT s B N m0 q) {T : Nat → Int32}
    (h0 : T 0 = nI (cntE (isPos B) (N + 1))) (h1 : T 1 = q 16 1) (h3 : T 3 = gI1 (grt (Dn s B) (N + 1))) (h4 : T 4 = gI2 (grt (Dn s B) (N + 1))) (ht : ∀ k, k ≠ 0 → k ≠ 1 → k ≠ 3 → k ≠ 4 → T k = m0 16 k) {X : Type} (f : Mem → Option X) :
    ∃ s', GT s B (N + 1) m0 s' ∧ (Option.bind (xt_X1_standsForItself (nI N) hM) (fun (o_3 : Int32) => (if o_3 = 0 then f (mgs (mset hM 16 T) [17, 18] q) else (Option.bind (xt_X7_collect (nI N) (mgs (mset hM 16 T) [17, 18] q)) (fun (o_4 : Mem) => f (mgs hM [16, 17, 18] o_4)))))) = f s' := by
  have hp := isPos_120 hpos
  have c0 : cntE (St B) N ≤ N := cntE_le _ _
  rw [standsForItself_ok hg hk hN hp, Option.bind_some]
  have hst : St B N = decide (lowA B N = N) := by unfold St; rw [hpos, Bool.true_and]
  rw [← hst]
  cases c : St B N
  · rw [if_pos (show bI false = 0 by decide)]
    refine ⟨_, ⟨h0, ?_, h3, h4, ht, ?_, ?_⟩, rfl⟩
    · show T 1 = _
      rw [h1, hq.t1]
      show _ = nI (cntE (St B) N + (if St B N = true then 1 else 0))
      rw [c]; rfl
    · intro n hn h
      by_cases e : n = N
      · rw [e, c] at h; cases h
      · exact hq.st n (by omega) h
    · intro key x hkey hx
      show q 18 _ = nI (FN s B key (colO x) N + (if Fq s B key (colO x) N = true then 1 else 0))
      rw [hq.ct key x hkey hx]
      unfold Fq
      rw [c]; rfl
  · rw [if_neg (show ¬ bI true = 0 by decide)]
    rw [collect_ok (m := mgs (mset hM 16 T) [17, 18] q) (s := s) (B := B) (c := cntE (St B) N) ((hg.mset (by omega)).mgs (ngr (by decide))) (hd.c rfl) hN hp (by show T 1 = _; rw [h1, hq.t1]) (by omega), Option.bind_some]
    refine ⟨_, ⟨h0, ?_, h3, h4, ?_, ?_, ?_⟩, rfl⟩
    · show nI (cntE (St B) N + 1) = nI (cntE (St B) N + (if St B N = true then 1 else 0))
      rw [c]; rfl
    · intro k k0 k1 k3 k4
      show (if k = 1 then nI (cntE (St B) N + 1) else T k) = _
      rw [if_neg k1]; exact ht k k0 k1 k3 k4
    · intro n hn h
      show (if cntE (St B) n = cntE (St B) N then nI N else q 17 (cntE (St B) n)) = nI n
      by_cases e : n = N
      · rw [e, if_pos rfl]
      · have e2 : cntE (St B) (n + 1) = cntE (St B) n + 1 := by show cntE (St B) n + (if St B n = true then 1 else 0) = _; rw [if_pos h]
        have e3 : cntE (St B) (n + 1) ≤ cntE (St B) N := cntE_mono _ (by omega)
        rw [if_neg (by omega)]
        exact hq.st n (by omega) h
    · intro key x hkey hx
      have hcl := colN_lt (s := s) (B := B) (n := N)
      show (if 64 * key + x = 64 * kyN N + colN (Dn s B N) then q 18 (64 * kyN N + colN (Dn s B N)) + 1 else q 18 (64 * key + x)) = nI (FN s B key (colO x) N + (if Fq s B key (colO x) N = true then 1 else 0))
      by_cases e : 64 * key + x = 64 * kyN N + colN (Dn s B N)
      · have e1 : key = kyN N := by omega
        have e2 : x = colN (Dn s B N) := by omega
        have : Fq s B key (colO x) N = true := by
          unfold Fq
          rw [c, decide_eq_true e1.symm, decide_eq_true (colO_iff.mpr e2)]; rfl
        rw [if_pos e, if_pos this, ← e, hq.ct key x hkey hx, nI_1]
      · have : ¬ Fq s B key (colO x) N = true := by
          unfold Fq
          rw [c, Bool.true_and, Bool.and_eq_true, decide_eq_true_eq, decide_eq_true_eq]
          rintro ⟨e1, e2⟩
          have e2 := colO_iff.mp e2
          omega
        rw [if_neg e, if_neg this, hq.ct key x hkey hx]; rfl
theorem tc0 : (0 : Int32).toNatClampNeg = 0 := rfl
theorem tc1 : (1 : Int32).toNatClampNeg = 1 := rfl
theorem tc2 : (2 : Int32).toNatClampNeg = 2 := rfl
theorem tc3 : (3 : Int32).toNatClampNeg = 3 := rfl
theorem tc4 : (4 : Int32).toNatClampNeg = 4 := rfl
theorem tc5 : (5 : Int32).toNatClampNeg = 5 := rfl
theorem tc6 : (6 : Int32).toNatClampNeg = 6 := rfl
theorem tc7 : (7 : Int32).toNatClampNeg = 7 := rfl
theorem tc8 : (8 : Int32).toNatClampNeg = 8 := rfl
theorem tc9 : (9 : Int32).toNatClampNeg = 9 := rfl
theorem tc10 : (10 : Int32).toNatClampNeg = 10 := rfl
theorem upd_s (f : Nat → Int32) (k : Nat) (v : Int32) : upd f k v k = v := if_pos rfl
theorem upd_n (f : Nat → Int32) {k j : Nat} (v : Int32) (h : j ≠ k) : upd f k v j = f j := if_neg h
theorem grt_cond {s B i : Nat} : dI (Dn s B i) ≤ gI1 (grt (Dn s B) i) ↔ grt (Dn s B) (i + 1) = grt (Dn s B) i := by
  rw [grt]
  cases e : Dn s B i with
  | none =>
    refine ⟨fun _ => rfl, fun _ => ?_⟩
    show (-6 : Int32) ≤ _
    cases e2 : grt (Dn s B) i with
    | none => exact Int32.le_refl _
    | some p =>
      obtain ⟨d, n0⟩ := p
      have hd := Dn_lt ((grt_spec (Dn s B) i).2 d n0 e2).2.1
      show (-6 : Int32) ≤ nI d
      exact Int32.le_trans (show (-6 : Int32) ≤ 0 by decide) (nI_pos' (by omega))
  | some x =>
    have hx := Dn_lt e
    dsimp only
    cases e2 : grt (Dn s B) i with
    | none =>
      exact ⟨fun h => absurd (Int32.le_trans (nI_pos' (show x < 2 ^ 31 by omega)) h) (by show ¬ (0 : Int32) ≤ -6; decide), fun h => (by cases h)⟩
    | some p =>
      obtain ⟨d, n0⟩ := p
      have hd := (grt_spec (Dn s B) i).2 d n0 e2
      have hd2 := Dn_lt hd.2.1
      show nI x ≤ nI d ↔ (if d < x then some (x, i) else some (d, n0)) = some (d, n0)
      rw [ble _ _ (by omega) (by omega)]
      by_cases c2 : d < x
      · rw [if_pos c2]
        refine ⟨fun h => by omega, fun h => ?_⟩
        have := congrArg Prod.fst (Option.some.inj h)
        dsimp only at this
        omega
      · rw [if_neg c2]
        exact ⟨fun _ => rfl, fun _ => by omega⟩
theorem grt_new {s B i : Nat} (h : ¬ grt (Dn s B) (i + 1) = grt (Dn s B) i) : ∃ x, Dn s B i = some x ∧ grt (Dn s B) (i + 1) = some (x, i) := by
  rw [grt] at h ⊢
  cases e : Dn s B i with
  | none => rw [e] at h; exact absurd rfl h
  | some x =>
    rw [e] at h
    refine ⟨x, rfl, ?_⟩
    dsimp only at h ⊢
    cases e2 : grt (Dn s B) i with
    | none => rfl
    | some p =>
      obtain ⟨d, n0⟩ := p
      rw [e2] at h
      dsimp only at h ⊢
      by_cases c3 : d < x
      · rw [if_pos c3]
      · rw [if_neg c3] at h; exact absurd rfl h
theorem goLoop {hM : Mem} (hg : GE hM) {s B : Nat} (hB : B < 65536) (hd : DE s B hM) (hk : KE B hM) (k : Mem → Option Mem) {m0 q0 : Mem} (h0 : GT s B 0 m0 q0) :
    ∃ o, GT s B 4096 m0 o ∧ xt_X7_goThrough_l18 (nI B) hM k 10000 (0 : Int32) q0 = k (mgs hM [16, 17, 18] o) := by
  have key := lup (fun n (q : Mem) v => xt_X7_goThrough_l18 (nI B) hM k n v q) (fun q => k (mgs hM [16, 17, 18] q)) 4096
    (fun i q => GT s B i m0 q)
    (fun n q _ => by
      show xt_X7_goThrough_l18 _ _ _ (n + 1) (nI 4096) q = _
      rw [xt_X7_goThrough_l18, if_pos (show (4096 : Int32) ≤ nI 4096 by decide)])
    (fun n i q hi hI => by
      show ∃ s', _ ∧ xt_X7_goThrough_l18 _ _ _ (n + 1) (nI i) q = _
      have v0 : vp_in (0 : Int32) 11 := by unfold vp_in; decide
      have v3 : vp_in (3 : Int32) 11 := by unfold vp_in; decide
      have v4 : vp_in (4 : Int32) 11 := by unfold vp_in; decide
      rw [xt_X7_goThrough_l18, lit 4096, if_neg (by rw [ble _ _ (by omega) (by omega)]; omega), isPosition_ok hg hi (msk_nI hB), Option.bind_some]
      cases c : isPos B i
      · rw [if_pos (show bI false = 0 by decide), nI_1]
        have hs : St B i = false := by unfold St; rw [c]; rfl
        have hdn := Dn_nopos (s := s) c
        have hI2 : GT s B (i + 1) m0 q := by
          refine ⟨?_, ?_, ?_, ?_, hI.tk, ?_, ?_⟩
          · show q 16 0 = nI (cntE (isPos B) i + (if isPos B i = true then 1 else 0))
            rw [c]; exact hI.t0
          · show q 16 1 = nI (cntE (St B) i + (if St B i = true then 1 else 0))
            rw [hs]; exact hI.t1
          · rw [grt, hdn]; exact hI.t3
          · rw [grt, hdn]; exact hI.t4
          · intro n hn h
            by_cases e : n = i
            · rw [e, hs] at h; cases h
            · exact hI.st n (by omega) h
          · intro key x hkey hx
            show q 18 _ = nI (FN s B key (colO x) i + (if Fq s B key (colO x) i = true then 1 else 0))
            rw [hI.ct key x hkey hx]
            unfold Fq
            rw [hs]; rfl
        exact ⟨mgs hM [16, 17, 18] q, hI2.c rfl rfl rfl, rfl⟩
      · rw [if_neg (show ¬ bI true = 0 by decide)]
        simp only [xgd_in v0, xgd_in v3, xgd_in v4, at_ok hd hi, Option.bind_some, nI_1, tc0, tc3, tc4]
        have e0 : q 16 0 + 1 = nI (cntE (isPos B) (i + 1)) := by
          rw [hI.t0, nI_1]
          show _ = nI (cntE (isPos B) i + (if isPos B i = true then 1 else 0))
          rw [c]; rfl
        rw [upd_n (q 16) (k := 0) (j := 3) (q 16 0 + 1) (by omega), hI.t3]
        by_cases c2 : dI (Dn s B i) ≤ gI1 (grt (Dn s B) i)
        · rw [if_pos c2]
          have e := grt_cond.mp c2
          refine gt_rest (T := upd (q 16) 0 (q 16 0 + 1)) hg hd hk hi c hI ?_ ?_ ?_ ?_ ?_ (fun m' => xt_X7_goThrough_l18 (nI B) hM k n (nI (i + 1)) m')
          · rw [upd_s]; exact e0
          · rw [upd_n _ _ (by omega)]
          · rw [upd_n _ _ (by omega), e]; exact hI.t3
          · rw [upd_n _ _ (by omega), e]; exact hI.t4
          · intro k k0 k1 k3 k4
            rw [upd_n _ _ k0]; exact hI.tk k k0 k1 k3 k4
        · rw [if_neg c2]
          obtain ⟨x, ex, eg⟩ := grt_new (mt grt_cond.mpr c2)
          refine gt_rest (T := upd (upd (upd (q 16) 0 (q 16 0 + 1)) 3 (dI (Dn s B i))) 4 (nI i)) hg hd hk hi c hI ?_ ?_ ?_ ?_ ?_ (fun m' => xt_X7_goThrough_l18 (nI B) hM k n (nI (i + 1)) m')
          · rw [upd_n _ _ (by omega), upd_n _ _ (by omega), upd_s]; exact e0
          · rw [upd_n _ _ (by omega), upd_n _ _ (by omega), upd_n _ _ (by omega)]
          · rw [upd_n _ _ (by omega), upd_s, eg, ex]; rfl
          · rw [upd_s, eg]; rfl
          · intro k k0 k1 k3 k4
            rw [upd_n _ _ k4, upd_n _ _ k3, upd_n _ _ k0]; exact hI.tk k k0 k1 k3 k4)
    10000 0 q0 (by omega) (by omega) h0
  exact key
theorem goThrough_ok {m : Mem} (hg : GE m) {s B : Nat} (hB : B < 65536) (hd : DE s B m) (hk : KE B m) (z0 : m 16 0 = 0) (z1 : m 16 1 = 0) (z18 : ∀ i, i < 6272 → m 18 i = 0) :
    ∃ o, xt_X7_goThrough (nI B) m = some o ∧ GT s B 4096 m o ∧ ∀ r, [16, 17, 18].contains r = false → o r = m r := by
  unfold xt_X7_goThrough
  rw [xgd_in (by unfold vp_in; decide), xgd_in (by unfold vp_in; decide), tc3, tc4]
  have h0 : GT s B 0 m (mset m 16 (upd (upd (m 16) 3 (-6 : Int32)) 4 (-6 : Int32))) := by
    refine ⟨?_, ?_, ?_, ?_, fun k k0 k1 k3 k4 => ?_, fun n hn => absurd hn (by omega), fun key c hkey hc => ?_⟩
    · rw [mset_s, upd_n _ _ (by omega), upd_n _ _ (by omega)]; exact z0
    · rw [mset_s, upd_n _ _ (by omega), upd_n _ _ (by omega)]; exact z1
    · rw [mset_s, upd_n _ _ (by omega), upd_s]; rfl
    · rw [mset_s, upd_s]; rfl
    · rw [mset_s, upd_n _ _ k4, upd_n _ _ k3]
    · rw [mset_n _ _ (by omega)]; exact z18 _ (by omega)
  obtain ⟨o, h1, h2⟩ := goLoop (hM := mset m 16 (upd (upd (m 16) 3 (-6 : Int32)) 4 (-6 : Int32))) (hg.mset (by omega)) hB (hd.c (mset_n _ _ (by omega))) (hk.c (mset_n _ _ (by omega)) (mset_n _ _ (by omega))) (fun (m_8 : Mem) => (some (mgs m [16, 17, 18] m_8))) h0
  refine ⟨_, h2, ?_, fun r hr => mgs_o _ _ hr⟩
  refine h1.c ?_ ?_ ?_ <;> rw [mgs_i _ _ (by decide), mgs_i _ _ (by decide)]
