/-! ===== the reference's rule ===== -/
theorem between_chk : bAll 16 (fun a => bAll 16 (fun b => xt_X9_between (nI a) (nI b) == some (nI (farN a b)))) = true := by decide +kernel
theorem between_ok {a b : Nat} (ha : a < 16) (hb : b < 16) : xt_X9_between (nI a) (nI b) = some (nI (farN a b)) := by
  have := bAll_e (bAll_e between_chk ha) hb
  simpa using this
theorem mkey_ok {m : Mem} (hp : PE m) {n : Nat} (hn : n < 4096) (h1 : n % 128 < 120) : xt_X9_key (nI n) m = some (nI (kyN n)) := by
  have hl := lohi h1
  have hf : n / 128 % 16 < 16 := Nat.mod_lt _ (by omega)
  have hlo : loP (n % 128) < 16 := by omega
  have hgp := gp hp h1
  have f1 := farN_le hf hlo
  have f2 := farN_le hf hl.2.1
  unfold xt_X9_key
  rw [md128 hn, dv128 hn, md16 (show n / 128 < 4096 by omega)]
  simp only [xgd_in (xin (x := nI (n % 128)) rfl h1 (by decide)), cl (show n % 128 < 2 ^ 31 by omega), hgp.1, hgp.2]
  rw [between_ok hf hlo, Option.bind_some, between_ok hf hl.2.1, Option.bind_some, lesser_ok (by omega) (by omega), Option.bind_some, greater_ok (by omega) (by omega), Option.bind_some, lit 2048, pk_div (by omega) (by omega) (by omega), lit 49, lit 7, pk_mul, pk_mul, nI_add, nI_add]
  rfl
theorem FL_St {B : Nat} {m : Mem} {n : Nat} (hn : n < 4096) (h : FLn B m n) : m 39 n = nI n ↔ St B n = true := by
  unfold St
  cases c : isPos B n
  · rw [(h.2 c).1]
    exact ⟨fun z => absurd z.symm (nI_m6 (by omega)), fun z => by cases z⟩
  · rw [(h.1 c).1, Bool.true_and, decide_eq_true_eq]
    have : lowA B n ≤ n := minE_le _ _ _
    exact nI_eq (by omega) (by omega)
/-- what the reference has worked out -/
def M3 (s B : Nat) (m : Mem) : Prop := (∀ n, n < 4096 → m 38 n = dI (Dn s B n)) ∧ ∀ n, n < 4096 → FLn B m n
theorem M3.c {s B : Nat} {m m' : Mem} (h : M3 s B m) (e1 : m' 38 = m 38) (e2 : m' 39 = m 39) (e3 : m' 40 = m 40) : M3 s B m' := by unfold M3 FLn; rw [e1, e2, e3]; exact h
def mO (i : Nat) : Option Nat := if i = 201 then none else some i
def mN (o : Option Nat) : Nat := match o with
  | none => 201
  | some x => x
theorem mO_iff {s B n i : Nat} : Dn s B n = mO i ↔ i = mN (Dn s B n) := by
  unfold mO
  cases e : Dn s B n with
  | none =>
    show none = _ ↔ i = 201
    by_cases h : i = 201
    · rw [if_pos h]; exact ⟨fun _ => h, fun _ => rfl⟩
    · rw [if_neg h]; exact ⟨fun z => (by cases z), fun z => absurd z h⟩
  | some x =>
    have := Dn_lt e
    show some x = _ ↔ i = x
    by_cases h : i = 201
    · rw [if_pos h]; exact ⟨fun z => (by cases z), fun z => absurd z (by omega)⟩
    · rw [if_neg h]; exact ⟨fun z => (Option.some.inj z).symm, fun z => by rw [z]⟩
/-- some one has the key -/
def hasK (B key n : Nat) : Bool := St B n && decide (kyN n = key)
theorem cntE_z {q : Nat → Bool} {N : Nat} : cntE q N = 0 ↔ ∀ n, n < N → q n = false := by
  constructor
  · intro h n hn
    rw [← Bool.not_eq_true]
    intro c
    have := cntE_pos hn c
    omega
  · exact cntE_0 q N
theorem rule31 {hM : Mem} {s B key : Nat} (hp : PE hM) (h3 : M3 s B hM) (hk : key < 98) (k : Int32 → Mem → Option (Int32 × Mem)) (m0 : Mem) (h0 : ∀ i, i < 202 → m0 43 i = 0) :
    ∃ b m', xt_X9_ruleOf_l31 (nI key) (201 : Int32) hM k 10000 (0 : Int32) (0 : Int32) m0 = k (bI b) (mgs hM [43] m') ∧ (b = false ↔ cntE (hasK B key) 4096 = 0) ∧ ∀ i, i < 202 → m' 43 i = nI (FN s B key (mO i) 4096) := by
  have key := lup (fun n (q : Int32 × Mem) v => xt_X9_ruleOf_l31 (nI key) (201 : Int32) hM k n q.1 v q.2) (fun q => k q.1 (mgs hM [43] q.2)) 4096
    (fun N q => (∃ b, q.1 = bI b ∧ (b = false ↔ cntE (hasK B key) N = 0)) ∧ ∀ i, i < 202 → q.2 43 i = nI (FN s B key (mO i) N))
    (fun n q _ => by
      show xt_X9_ruleOf_l31 _ _ _ _ (n + 1) q.1 (nI 4096) q.2 = _
      rw [xt_X9_ruleOf_l31, if_pos (show (4096 : Int32) ≤ nI 4096 by decide)])
    (fun n N q hN hI => by
      obtain ⟨⟨b, b1, b2⟩, I2⟩ := hI
      show ∃ s', _ ∧ xt_X9_ruleOf_l31 _ _ _ _ (n + 1) q.1 (nI N) q.2 = _
      have vN : vp_in (nI N) 4096 := xin rfl hN (by decide)
      rw [xt_X9_ruleOf_l31, lit 4096, if_neg (by rw [ble _ _ (by omega) (by omega)]; omega), nI_1]
      simp only [xgd_in vN, cl (show N < 2 ^ 31 by omega)]
      have hS := FL_St hN (h3.2 N hN)
      have no : hasK B key N = false → ((∃ b, q.1 = bI b ∧ (b = false ↔ cntE (hasK B key) (N + 1) = 0)) ∧ ∀ i, i < 202 → (mgs hM [43] q.2) 43 i = nI (FN s B key (mO i) (N + 1))) := by
        intro h
        constructor
        · refine ⟨b, b1, ?_⟩
          rw [b2]
          show _ ↔ cntE (hasK B key) N + (if hasK B key N = true then 1 else 0) = 0
          rw [h]; exact Iff.rfl
        · intro i hi
          show q.2 43 i = nI (FN s B key (mO i) N + (if Fq s B key (mO i) N = true then 1 else 0))
          have : Fq s B key (mO i) N = false := by
            unfold Fq
            unfold hasK at h
            rw [← Bool.and_assoc, h, Bool.false_and]
          rw [this]; exact I2 i hi
      by_cases c : St B N = true
      · rw [if_pos (hS.mpr c), mkey_ok hp hN (St_120 c), Option.bind_some]
        have hky := kyN_lt hN (St_120 c)
        by_cases c2 : kyN N = key
        · rw [if_pos ((nI_eq (by omega) (by omega)).mpr c2)]
          have hh : hasK B key N = true := by unfold hasK; rw [c, decide_eq_true c2]; rfl
          have yes : ∀ (x : Nat), x = mN (Dn s B N) → ((∃ b, (1 : Int32) = bI b ∧ (b = false ↔ cntE (hasK B key) (N + 1) = 0)) ∧ ∀ i, i < 202 → (mset hM 43 (upd (q.2 43) x (q.2 43 x + 1))) 43 i = nI (FN s B key (mO i) (N + 1))) := by
            intro x hx
            constructor
            · refine ⟨true, rfl, ?_⟩
              have := cntE_pos (q := hasK B key) (N := N + 1) (show N < N + 1 by omega) hh
              exact ⟨fun z => (by cases z), fun z => by omega⟩
            · intro i hi
              show upd (q.2 43) x (q.2 43 x + 1) i = nI (FN s B key (mO i) N + (if Fq s B key (mO i) N = true then 1 else 0))
              have : Fq s B key (mO i) N = true ↔ i = x := by
                unfold Fq
                rw [c, decide_eq_true c2, Bool.true_and, Bool.true_and, decide_eq_true_eq, mO_iff, hx]
              by_cases c3 : i = x
              · rw [if_pos (this.mpr c3), c3, upd_s, I2 x (by omega), nI_1]
              · rw [if_neg (mt this.mp c3), upd_n _ _ c3]; exact I2 i hi
          rw [h3.1 N hN]
          cases e : Dn s B N with
          | none =>
            have v201 : vp_in (201 : Int32) 202 := by unfold vp_in; decide
            rw [if_neg (show ¬ (0 : Int32) ≤ dI none by show ¬ (0 : Int32) ≤ -6; decide), xgd_in v201, xgd_in v201, show (201 : Int32).toNatClampNeg = 201 from rfl]
            exact ⟨(_, _), yes 201 (by rw [e]; rfl), rfl⟩
          | some x =>
            have hx := Dn_lt e
            have vx : vp_in (dI (some x)) 202 := xin (show dI (some x) = nI x from rfl) (by omega) (by decide)
            rw [if_pos (show (0 : Int32) ≤ dI (some x) from nI_pos' (by omega)), xgd_in vx, xgd_in vx, show (dI (some x)).toNatClampNeg = x from cl (by omega)]
            exact ⟨(_, _), yes x (by rw [e]; rfl), rfl⟩
        · rw [if_neg (mt (nI_eq (by omega) (by omega)).mp c2)]
          exact ⟨(q.1, mgs hM [43] q.2), no (by unfold hasK; rw [decide_eq_false c2, Bool.and_false]), rfl⟩
      · rw [if_neg (mt hS.mp c)]
        exact ⟨(q.1, mgs hM [43] q.2), no (by unfold hasK; rw [Bool.not_eq_true] at c; rw [c]; rfl), rfl⟩)
    10000 0 ((0 : Int32), m0) (by omega) (by omega) ⟨⟨false, rfl, fun _ => rfl, fun _ => rfl⟩, fun i hi => h0 i hi⟩
  obtain ⟨⟨v, m'⟩, ⟨⟨b, h1, h2⟩, h4⟩, h5⟩ := key
  dsimp only at h1
  subst h1
  exact ⟨b, m', h5, h2, h4⟩
theorem amx_60 {F : Option Nat → Nat} (h : ∀ x, 60 ≤ x → F (some x) = 0) : ∀ d, amx F (60 + d) = amx F 60 := by
  intro d
  induction d with
  | zero => rfl
  | succ d ih =>
    show amx F (60 + d + 1) = _
    rw [amx, h (60 + d) (by omega), if_neg (by omega), ih]
theorem rule105 {hM : Mem} {s B key : Nat} (x3 : Int32) (k : Int32 → Option (Int32 × Mem)) (h43 : ∀ i, i < 202 → hM 43 i = nI (FN s B key (mO i) 4096)) :
    ∃ j, j < 202 ∧ xt_X9_ruleOf_l105 (201 : Int32) x3 hM k 10000 (0 : Int32) (1 : Int32) = k (nI j) ∧
      (if (amx (fun o => FN s B key o 4096) 60).1 < FN s B key none 4096 then j = 201 else (j < 201 ∧ FN s B key (some j) 4096 = (amx (fun o => FN s B key o 4096) 60).1 ∧ ((amx (fun o => FN s B key o 4096) 60).2 = some j ∨ (amx (fun o => FN s B key o 4096) 60).2 = none))) := by
  obtain ⟨F, hF⟩ : ∃ F : Option Nat → Nat, F = fun o => FN s B key o 4096 := ⟨_, rfl⟩
  have hF2 : ∀ o, FN s B key o 4096 = F o := fun o => by rw [hF]
  have hle : ∀ o, F o ≤ 4096 := fun o => by rw [hF]; exact FN_le _ _ _ _ _
  have h60 : ∀ x, 60 ≤ x → F (some x) = 0 := fun x hx => by rw [hF]; exact FN_60 hx
  rw [← hF, hF2]
  have h43' : ∀ i, i < 202 → hM 43 i = nI (F (mO i)) := fun i hi => by rw [h43 i hi, hF2]
  have key := lup (fun n (q : Int32) v => xt_X9_ruleOf_l105 (201 : Int32) x3 hM k n q v) k 202
    (fun i q => 1 ≤ i ∧ ∃ j, j < 202 ∧ q = nI j ∧ (i ≤ 201 → j < 201 ∧ F (some j) = (amx F i).1 ∧ ((amx F i).2 = some j ∨ (amx F i).2 = none)) ∧
      (i = 202 → if (amx F 60).1 < F none then j = 201 else (j < 201 ∧ F (some j) = (amx F 60).1 ∧ ((amx F 60).2 = some j ∨ (amx F 60).2 = none))))
    (fun n q _ => by
      show xt_X9_ruleOf_l105 _ _ _ _ (n + 1) q (nI 202) = _
      rw [xt_X9_ruleOf_l105, if_pos (show (201 : Int32) < nI 202 by decide)])
    (fun n i q hi hI => by
      obtain ⟨I0, j, j1, j2, j3, _⟩ := hI
      obtain ⟨j4, j5, j6⟩ := j3 (by omega)
      show ∃ s', _ ∧ xt_X9_ruleOf_l105 _ _ _ _ (n + 1) q (nI i) = _
      have l1 := hle (mO i)
      have l2 := hle (mO j)
      have ej : mO j = some j := if_neg (by omega)
      rw [xt_X9_ruleOf_l105, lit 201, if_neg (by rw [nI_ltI (by omega) (by omega)]; omega), j2, xgd_in (xin rfl hi (by decide)), xgd_in (xin rfl j1 (by decide)), cl (by omega), cl (by omega), h43' i hi, h43' j j1, nI_1]
      have cnd : nI (F (mO i)) ≤ nI (F (mO j)) ↔ ¬ (amx F i).1 < F (mO i) := by
        rw [ble _ _ (by omega) (by omega), ej, j5]; omega
      by_cases c : (amx F i).1 < F (mO i)
      · rw [if_neg (fun z => cnd.mp z c)]
        refine ⟨nI i, ⟨by omega, i, hi, rfl, fun h => ?_, fun h => ?_⟩, rfl⟩
        · have ei : mO i = some i := if_neg (by omega)
          rw [ei] at c
          rw [amx, if_pos c]
          exact ⟨by omega, rfl, Or.inl rfl⟩
        · have e201 : i = 201 := by omega
          have := amx_60 h60 141
          rw [e201] at c
          rw [show amx F 201 = amx F 60 from this] at c
          rw [if_pos (show (amx F 60).1 < F none from c)]; exact e201
      · rw [if_pos (cnd.mpr c)]
        refine ⟨nI j, ⟨by omega, j, j1, rfl, fun h => ?_, fun h => ?_⟩, rfl⟩
        · have ei : mO i = some i := if_neg (by omega)
          rw [ei] at c
          rw [amx, if_neg c]
          exact ⟨j4, j5, j6⟩
        · have e201 : i = 201 := by omega
          have e := amx_60 h60 141
          have e : amx F 201 = amx F 60 := e
          rw [e201] at c j5 j6
          rw [e] at c j5 j6
          rw [if_neg (show ¬ (amx F 60).1 < F none from c)]
          exact ⟨j4, j5, j6⟩)
    10000 1 (0 : Int32) (by omega) (by omega) ⟨by omega, 0, by omega, rfl, fun _ => by
      have e : amx F 1 = if 0 < F (some 0) then (F (some 0), some 0) else (0, none) := rfl
      rw [e]
      by_cases c : 0 < F (some 0)
      · rw [if_pos c]; exact ⟨by omega, rfl, Or.inl rfl⟩
      · rw [if_neg c]; exact ⟨by omega, by show F (some 0) = 0; omega, Or.inr rfl⟩, fun h => absurd h (by omega)⟩
  obtain ⟨q, ⟨_, j, h1, h2, _, h4⟩, h5⟩ := key
  subst h2
  refine ⟨j, h1, h5, ?_⟩
  rw [hF2 (some j)]
  exact h4 rfl
theorem hasK_FN {s B key : Nat} : cntE (hasK B key) 4096 = 0 ↔ ∀ o, FN s B key o 4096 = 0 := by
  rw [cntE_z]
  constructor
  · intro h o
    unfold FN
    rw [cntE_z]
    intro n hn
    have := h n hn
    unfold hasK at this
    unfold Fq
    rw [← Bool.and_assoc, this, Bool.false_and]
  · intro h n hn
    have := h (Dn s B n)
    unfold FN at this
    rw [cntE_z] at this
    have := this n hn
    unfold Fq at this
    rw [decide_eq_true (rfl : Dn s B n = Dn s B n), Bool.and_true] at this
    exact this
theorem ruleOf_ok {m : Mem} {s B key : Nat} (hp : PE m) (h3 : M3 s B m) (hk : key < 98) : ∃ o, xt_X9_ruleOf (nI key) m = some (tld s B key, o) ∧ ∀ r, [43].contains r = false → o r = m r := by
  unfold xt_X9_ruleOf
  have k2 := fun (K : Mem → Option (Int32 × Mem)) => lup (fun n (q : Mem) v => xt_X9_ruleOf_l2 (nI key) m K n v q) (fun q => K (mgs m [43] q)) 202
    (fun i q => ∀ j, j < i → q 43 j = 0)
    (fun n q _ => by
      show xt_X9_ruleOf_l2 _ _ _ (n + 1) (nI 202) q = _
      rw [xt_X9_ruleOf_l2, if_pos (show (202 : Int32) ≤ nI 202 by decide)])
    (fun n i q hi hI => by
      show ∃ s', _ ∧ xt_X9_ruleOf_l2 _ _ _ (n + 1) (nI i) q = _
      rw [xt_X9_ruleOf_l2, lit 202, if_neg (by rw [ble _ _ (by omega) (by omega)]; omega), xgd_in (xin rfl hi (by decide)), cl (by omega), nI_1]
      refine ⟨_, fun j hj => ?_, rfl⟩
      rw [mset_s]
      by_cases c : j = i
      · rw [c, upd_s]
      · rw [upd_n _ _ c]; exact hI j (by omega))
    10000 0 m (by omega) (by omega) (fun j hj => absurd hj (by omega))
  obtain ⟨q, a1, a2⟩ := k2 _
  have a2' : xt_X9_ruleOf_l2 (nI key) m _ 10000 (0 : Int32) m = _ := a2
  rw [a2']
  obtain ⟨b, m', b1, b2, b3⟩ := rule31 (hM := mgs m [43] (mgs m [43] q)) (s := s) (B := B) (key := key) (hp.c (mgs_o _ _ (by decide)) (mgs_o _ _ (by decide))) (h3.c (mgs_o _ _ (by decide)) (mgs_o _ _ (by decide)) (mgs_o _ _ (by decide))) hk
    (fun (v3_3 : Int32) (m_4 : Mem) => (xt_X9_ruleOf_l105 (201 : Int32) v3_3 (mgs m [43] m_4) (fun (v4_5 : Int32) => (if v3_3 = 0 then (some ((-1 : Int32), (mgs m [43] m_4))) else (if v4_5 = (201 : Int32) then (some ((-6 : Int32), (mgs m [43] m_4))) else (some (v4_5, (mgs m [43] m_4)))))) 10000 (0 : Int32) (1 : Int32)))
    (mgs m [43] (mgs m [43] q)) (fun i hi => by rw [mgs_i _ _ (by decide), mgs_i _ _ (by decide)]; exact a1 i hi)
  rw [b1]
  obtain ⟨mZ, hmZ⟩ : ∃ mZ : Mem, mZ = mgs m [43] (mgs (mgs m [43] (mgs m [43] q)) [43] m') := ⟨_, rfl⟩
  rw [← hmZ]
  have z43 : ∀ i, i < 202 → mZ 43 i = nI (FN s B key (mO i) 4096) := fun i hi => by rw [hmZ]; exact b3 i hi
  obtain ⟨j, c1, c2, c3⟩ := rule105 (hM := mZ) (s := s) (B := B) (key := key) (bI b) (fun (v4_5 : Int32) => (if bI b = 0 then (some ((-1 : Int32), mZ)) else (if v4_5 = (201 : Int32) then (some ((-6 : Int32), mZ)) else (some (v4_5, mZ))))) z43
  rw [c2]
  refine ⟨mZ, ?_, fun r hr => by rw [hmZ]; exact mgs_o _ _ hr⟩
  have et : tld s B key = if (amx (fun o => FN s B key o 4096) 60).1 < FN s B key none 4096 then -6 else match (amx (fun o => FN s B key o 4096) 60).2 with
    | none => -1
    | some x => nI x := rfl
  rw [hasK_FN (s := s)] at b2
  have eF : ∀ o, FN s B key o 4096 = (fun o => FN s B key o 4096) o := fun _ => rfl
  obtain ⟨F, hF⟩ : ∃ F : Option Nat → Nat, F = fun o => FN s B key o 4096 := ⟨_, rfl⟩
  rw [← hF] at et c3
  have b2' : b = false ↔ ∀ o, F o = 0 := by rw [hF]; exact b2
  have c3' : if (amx F 60).1 < F none then j = 201 else (j < 201 ∧ F (some j) = (amx F 60).1 ∧ ((amx F 60).2 = some j ∨ (amx F 60).2 = none)) := by rw [hF] at c3 ⊢; exact c3
  have et' : tld s B key = if (amx F 60).1 < F none then -6 else match (amx F 60).2 with
    | none => -1
    | some x => nI x := by rw [hF] at et ⊢; exact et
  rw [et']
  have h60 : ∀ x, 60 ≤ x → F (some x) = 0 := fun x hx => by rw [hF]; exact FN_60 hx
  clear et et' c3 b2 hmZ z43 c2 b1 b3
  cases b
  · have z := b2'.mp rfl
    rw [if_pos (show bI false = 0 by decide), if_neg (by rw [z none]; omega)]
    cases e : (amx F 60).2 with
    | none => rfl
    | some x => have := (amx_lt F 60 x e).2.2; rw [z (some x)] at this; omega
  · have nz : ¬ ∀ o, F o = 0 := fun h => by have := b2'.mpr h; cases this
    rw [if_neg (show ¬ bI true = 0 by decide)]
    by_cases c : (amx F 60).1 < F none
    · rw [if_pos c] at c3' ⊢
      rw [if_pos (show nI j = 201 by rw [c3']; rfl)]
    · rw [if_neg c] at c3' ⊢
      rw [if_neg (show ¬ nI j = 201 by rw [lit 201, nI_eq (by omega) (by omega)]; omega)]
      rcases c3'.2.2 with h | h
      · rw [h]
      · exfalso
        obtain ⟨n1, n2⟩ := amx_none F 60 h
        apply nz
        intro o
        cases o with
        | none => omega
        | some x =>
          rcases Nat.lt_or_ge x 60 with z | z
          · exact n2 x z
          · exact h60 x z
