/-! ===== the class works the distances out ===== -/
/-- the settings and the blocked places, as Ends has them -/
def EF (m : Mem) (s B : Nat) : Prop := msk (m 9 5) (bfr B) ∧ m 9 6 = bI (s.testBit 0) ∧ m 9 7 = bI (s.testBit 1) ∧ m 9 8 = bI (s.testBit 2)
theorem placesForFox_ok {m : Mem} (hg : GE m) {s B : Nat} (he : EF m s B) {p : Nat} (hp : p < 120) : ∃ x, xt_X0_placesForFox (nI p) m = some x ∧ msk x (fun f => psP B f p) := by
  unfold xt_X0_placesForFox
  obtain ⟨y, hy, hm⟩ := placesOf_ok hg hp
  have hl := lohi hp
  rw [hy, Option.bind_some]
  have q := (hm.and he.1).ext hm
  by_cases c : y &&& (m 9 5) = y
  · rw [if_pos c]
    refine ⟨_, rfl, (he.1.andn hm).congr (fun f hf => ?_)⟩
    have r := q.mp c
    have r1 := r (loP p) (by omega)
    have r2 := r (hiP p) (by omega)
    simp at r1 r2
    simp [psP, r1, r2]
  · rw [if_neg c]
    refine ⟨_, rfl, msk_0.congr (fun f hf => ?_)⟩
    by_cases z : bfr B (loP p) = true ∧ bfr B (hiP p) = true
    · exfalso
      apply c
      rw [q]
      intro i hi
      by_cases z1 : i = loP p
      · subst z1; simp [z.1]
      · by_cases z2 : i = hiP p
        · subst z2; simp [z.2]
        · simp [z1, z2]
    · unfold psP
      cases h1 : bfr B (loP p) <;> cases h2 : bfr B (hiP p) <;> simp_all
theorem keep_ok {m : Mem} {x : Int32} {P : Nat → Bool} (hx : msk x P) {w p L : Nat} (hw : w < 2) (hp : p < 120) : ∃ o, xt_X0_keep x (nI w) (nI p) (nI L) m = some o ∧ ∀ n, n < 4096 → o 10 n = if n / 2048 = w ∧ n % 128 = p ∧ P (n / 128 % 16) = true then nI L else m 10 n := by
  unfold xt_X0_keep
  by_cases c : x = 0
  · rw [if_pos c]
    refine ⟨_, rfl, fun n hn => ?_⟩
    rw [if_neg]
    rintro ⟨_, _, h⟩
    rw [hx.z.mp c _ (Nat.mod_lt _ (by omega))] at h
    cases h
  · rw [if_neg c]
    obtain ⟨s', h1, h2⟩ := lup (fun n (s : Mem) v => xt_X0_keep_l8 x (nI w) (nI p) (nI L) m (fun m_1 => some (mgs m [10] m_1)) n v s) (fun s => some (mgs m [10] (mgs m [10] s))) 16
      (fun i s => ∀ n, n < 4096 → s 10 n = if n / 2048 = w ∧ n % 128 = p ∧ n / 128 % 16 < i ∧ P (n / 128 % 16) = true then nI L else m 10 n)
      (fun n s _ => by
        show xt_X0_keep_l8 _ _ _ _ _ _ (n + 1) (nI 16) s = _
        rw [xt_X0_keep_l8, if_pos (show (16 : Int32) ≤ nI 16 by decide)])
      (fun n i s hi hI => by
        show ∃ s', _ ∧ xt_X0_keep_l8 _ _ _ _ _ _ (n + 1) (nI i) s = _
        rw [xt_X0_keep_l8, lit 16, if_neg (by rw [ble _ _ (by omega) (by omega)]; omega)]
        by_cases c1 : P i = true
        · have e : (2048 : Int32) * nI w + (128 : Int32) * nI i + nI p &&& (4095 : Int32) = nI (2048 * w + 128 * i + p) := by
            rw [lit 2048, lit 128, pk_mul, pk_mul, nI_add, nI_add]
            have := pk_andN (n := 2048 * w + 128 * i + p) (by omega) (m := 4095) 12 rfl
            rw [this, Nat.mod_eq_of_lt (by omega)]
          rw [if_neg (by rw [hx.t0 hi, c1]; decide), e, xgd_in (xin rfl (by omega) (by decide)), cl (by omega), nI_1]
          refine ⟨_, ?_, rfl⟩
          intro n hn
          rw [mset_s]
          unfold upd
          by_cases c2 : n = 2048 * w + 128 * i + p
          · rw [if_pos c2, if_pos (by subst c2; refine ⟨by omega, by omega, by omega, ?_⟩; rw [show (2048 * w + 128 * i + p) / 128 % 16 = i by omega]; exact c1)]
          · rw [if_neg c2, hI n hn]
            by_cases c3 : n / 2048 = w ∧ n % 128 = p ∧ n / 128 % 16 < i ∧ P (n / 128 % 16) = true
            · rw [if_pos c3, if_pos ⟨c3.1, c3.2.1, by omega, c3.2.2.2⟩]
            · rw [if_neg c3, if_neg]
              rintro ⟨a1, a2, a3, a4⟩
              rcases Nat.lt_or_ge (n / 128 % 16) i with z | z
              · exact c3 ⟨a1, a2, z, a4⟩
              · exact c2 (by omega)
        · have c1' : P i = false := by simpa using c1
          rw [if_pos (by rw [hx.t0 hi]; exact c1'), nI_1]
          refine ⟨_, ?_, rfl⟩
          intro n hn
          rw [mgs_i _ _ (by decide), hI n hn]
          by_cases c3 : n / 2048 = w ∧ n % 128 = p ∧ n / 128 % 16 < i ∧ P (n / 128 % 16) = true
          · rw [if_pos c3, if_pos ⟨c3.1, c3.2.1, by omega, c3.2.2.2⟩]
          · rw [if_neg c3, if_neg]
            rintro ⟨a1, a2, a3, a4⟩
            rcases Nat.lt_or_ge (n / 128 % 16) i with z | z
            · exact c3 ⟨a1, a2, z, a4⟩
            · have : n / 128 % 16 = i := by omega
              rw [this] at a4; rw [a4] at c1'; cases c1')
      10000 0 m (by omega) (by omega) (fun n hn => by rw [if_neg]; rintro ⟨_, _, h, _⟩; omega)
    refine ⟨_, h2, fun n hn => ?_⟩
    rw [mgs_i _ _ (by decide), mgs_i _ _ (by decide), h1 n hn]
    by_cases c3 : n / 2048 = w ∧ n % 128 = p ∧ P (n / 128 % 16) = true
    · rw [if_pos c3, if_pos ⟨c3.1, c3.2.1, Nat.mod_lt _ (by omega), c3.2.2⟩]
    · rw [if_neg c3, if_neg (fun z => c3 ⟨z.1, z.2.1, z.2.2.2⟩)]
/-- the fox's level of one pair -/
theorem foxLevel_ok {m : Mem} (hg : GE m) {s B : Nat} (he : EF m s B) {p L : Nat} (hp : p < 120) {F Hh : Nat → Bool} (hF : msk (m 11 p) F) (hH : msk (m 12 p) Hh) :
    ∃ x o, xt_X0_foxLevel (nI p) (nI L) m = some (x, o) ∧ msk x (fun f => psP B f p && (!F f && (List.range 16).all fun t => !(stp (s.testBit 0) f t && (psP B t p && !Hh t)))) ∧ o 11 = upd (m 11) p (m 11 p ||| x) ∧
      ∀ n, n < 4096 → o 10 n = if n / 2048 = 1 ∧ n % 128 = p ∧ bt x (n / 128 % 16) = true then nI L else m 10 n := by
  unfold xt_X0_foxLevel
  obtain ⟨y, hy, hm⟩ := placesForFox_ok hg he hp
  have hv : vp_in (nI p) 120 := xin rfl hp (by decide)
  have hcl : (nI p).toNatClampNeg = p := cl (by omega)
  simp only [hy, Option.bind_some, xgd_in hv, hcl]
  have ho := hm.andn hF
  have hes := hm.andn hH
  generalize y &&& (m 11 p ^^^ (-1)) = xo at ho
  generalize y &&& (m 12 p ^^^ (-1)) = xe at hes
  generalize hR : (fun (v5_4 : Int32) => Option.bind (xt_X0_keep v5_4 (1 : Int32) (nI p) (nI L) m) (fun (o_5 : Mem) => some (v5_4, mgs (mset m 11 (upd (m 11) p ((m 11 p) ||| v5_4))) [10] o_5))) = K
  have key := lup (fun n (s : Int32) v => xt_X0_foxLevel_l37 (nI p) (nI L) xo xe m K n s v) K 16
      (fun i v => msk v (fun f => decide (f < i) && (psP B f p && (!F f && (List.range 16).all fun t => !(stp (s.testBit 0) f t && (psP B t p && !Hh t))))))
      (fun n v _ => by
        show xt_X0_foxLevel_l37 _ _ _ _ _ _ (n + 1) v (nI 16) = _
        rw [xt_X0_foxLevel_l37, if_pos (show (16 : Int32) ≤ nI 16 by decide)])
      (fun n i v hi hI => by
        show ∃ s', _ ∧ xt_X0_foxLevel_l37 _ _ _ _ _ _ (n + 1) v (nI i) = _
        rw [xt_X0_foxLevel_l37, lit 16, if_neg (by rw [ble _ _ (by omega) (by omega)]; omega), nI_1]
        have same : (psP B i p && (!F i && (List.range 16).all fun t => !(stp (s.testBit 0) i t && (psP B t p && !Hh t)))) = false → msk v (fun f => decide (f < i + 1) && (psP B f p && (!F f && (List.range 16).all fun t => !(stp (s.testBit 0) f t && (psP B t p && !Hh t))))) := by
          intro hf
          refine hI.congr (fun f hf2 => ?_)
          by_cases c : f = i
          · subst c; rw [hf]; simp
          · rw [show decide (f < i + 1) = decide (f < i) by rw [decide_eq_decide]; omega]
        by_cases c1 : ((xo >>> (nI i &&& 31)) &&& (1 : Int32)) = 0
        · rw [if_pos c1]
          have := (ho.t0 hi).mp c1
          exact ⟨v, same (by cases h1 : psP B i p <;> cases h2 : F i <;> simp_all), rfl⟩
        · rw [if_neg c1]
          have o1 : psP B i p = true ∧ F i = false := by
            have := mt (ho.t0 hi).mpr c1
            simpa using this
          obtain ⟨z, hz, hzm⟩ := stepsFrom_ok hg hi (s.testBit 0)
          rw [he.2.1, hz, Option.bind_some]
          have q := (hzm.and hes).z
          by_cases c2 : z &&& xe = 0
          · rw [if_pos c2]
            have r := q.mp c2
            refine ⟨_, (hI.or (msk_1 hi)).congr (fun f hf => ?_), rfl⟩
            by_cases c : f = i
            · subst c
              have : ((List.range 16).all fun t => !(stp (s.testBit 0) f t && (psP B t p && !Hh t))) = true := by
                rw [List.all_eq_true]
                intro t ht
                rw [r t (List.mem_range.mp ht)]; rfl
              rw [this, o1.1, o1.2]; simp
            · rw [show decide (f < i + 1) = decide (f < i) by rw [decide_eq_decide]; omega]
              simp [c]
          · rw [if_neg c2]
            refine ⟨v, same ?_, rfl⟩
            have : ((List.range 16).all fun t => !(stp (s.testBit 0) i t && (psP B t p && !Hh t))) = false := by
              rw [Bool.eq_false_iff]
              intro hall
              apply c2
              rw [q]
              intro t ht
              have := List.all_eq_true.mp hall t (List.mem_range.mpr ht)
              revert this
              cases stp (s.testBit 0) i t <;> cases psP B t p <;> cases Hh t <;> simp
            rw [this]; simp)
      10000 0 0 (by omega) (by omega) (msk_0.congr (fun f _ => by simp))
  obtain ⟨v, h1, h2⟩ := key
  have h2' : xt_X0_foxLevel_l37 (nI p) (nI L) xo xe m K 10000 0 0 = K v := h2
  rw [h2', ← hR]
  obtain ⟨o, ho1, ho2⟩ := keep_ok (m := m) (w := 1) (p := p) (L := L) h1 (by omega) hp
  have ho1' : xt_X0_keep v (1 : Int32) (nI p) (nI L) m = some o := ho1
  simp only [ho1', Option.bind_some]
  have h1' := h1.congr (q := fun f => psP B f p && (!F f && (List.range 16).all fun t => !(stp (s.testBit 0) f t && (psP B t p && !Hh t)))) (fun f hf => by simp [hf])
  refine ⟨_, _, rfl, h1', ?_, ?_⟩
  · rw [mgs_o _ _ (by decide), mset_s]
  · intro n hn
    rw [mgs_i _ _ (by decide), ho2 n hn, h1.at (Nat.mod_lt _ (by omega))]
theorem esc_eq {q : Nat → Bool} {s B f p : Nat} (h : psP B f p = true) : ((List.range 16).all fun t => !(stp (s.testBit 0) f t && (psP B t p && !q (128 * t + p)))) = fEsc q s B f p := by
  unfold psP at h
  simp only [Bool.and_eq_true] at h
  unfold fEsc psP
  rw [h.2.1, h.2.2.1]
  congr 1
  funext t
  cases stp (s.testBit 0) f t <;> cases bfr B t <;> cases decide (t ≠ loP p) <;> cases decide (t ≠ hiP p) <;> cases q (128 * t + p) <;> rfl
/-- what is known of the fox with the hunters at a pair of places -/
theorem knownWith_ok {m : Mem} {p : Nat} (hp : p < 120) : xt_X0_knownWith (nI p) m = some (m 11 p) := by
  unfold xt_X0_knownWith
  have h0 : ¬ nI p < (0 : Int32) := by rw [lit 0, nI_ltI (by omega) (by omega)]; omega
  have h1 : ¬ (120 : Int32) ≤ nI p := by rw [lit 120, ble _ _ (by omega) (by omega)]; omega
  rw [if_neg h0, if_neg h1, xgd_in (xin rfl hp (by decide)), cl (by omega)]
/-- what one hunter's steps reach -/
theorem reachedBy_ok {m : Mem} (hg : GE m) {s B : Nat} (he : EF m s B) {F : Nat → Nat → Bool} (hF : ∀ p, p < 120 → msk (m 11 p) (F p)) {a b : Nat} (ha : a < 16) (hb : b < 16) :
    ∃ x, xt_X0_reachedBy (nI a) (nI b) m = some x ∧ msk x (fun f => (stp (s.testBit 1) a f && (bfr B f && decide (f ≠ b))) || (List.range 16).any fun t => stp (s.testBit 1) a t && (bfr B t && (decide (t ≠ b) && F (prN t b) f))) := by
  unfold xt_X0_reachedBy
  obtain ⟨z, hz, hzm⟩ := stepsFrom_ok hg ha (s.testBit 1)
  rw [he.2.2.1, hz, Option.bind_some]
  have hst : msk ((z &&& m 9 5) &&& (((1 : Int32) <<< (nI b &&& 31)) ^^^ (-1))) (fun t => stp (s.testBit 1) a t && (bfr B t && decide (t ≠ b))) := ((hzm.and he.1).andn (msk_1 hb)).congr (fun f hf => by
    cases stp (s.testBit 1) a f <;> cases bfr B f <;> by_cases c : f = b <;> simp [c])
  generalize (z &&& m 9 5) &&& (((1 : Int32) <<< (nI b &&& 31)) ^^^ (-1)) = st at hst
  have key := lup (fun n (v : Int32) i => xt_X0_reachedBy_l30 (nI b) st m (fun v => some v) n v i) (fun v => some v) 16
      (fun i v => msk v (fun f => (stp (s.testBit 1) a f && (bfr B f && decide (f ≠ b))) || (List.range 16).any fun t => decide (t < i) && (stp (s.testBit 1) a t && (bfr B t && (decide (t ≠ b) && F (prN t b) f)))))
      (fun n v _ => by
        show xt_X0_reachedBy_l30 _ _ _ _ (n + 1) v (nI 16) = _
        rw [xt_X0_reachedBy_l30, if_pos (show (16 : Int32) ≤ nI 16 by decide)])
      (fun n i v hi hI => by
        show ∃ s', _ ∧ xt_X0_reachedBy_l30 _ _ _ _ (n + 1) v (nI i) = _
        rw [xt_X0_reachedBy_l30, lit 16, if_neg (by rw [ble _ _ (by omega) (by omega)]; omega), nI_1]
        have step : ∀ (g : Nat → Bool), ((List.range 16).any fun t => decide (t < i + 1) && g t) = (((List.range 16).any fun t => decide (t < i) && g t) || g i) := by
          intro g
          rw [Bool.eq_iff_iff, Bool.or_eq_true, List.any_eq_true, List.any_eq_true]
          constructor
          · rintro ⟨t, h1, h2⟩
            simp only [Bool.and_eq_true, decide_eq_true_eq] at h2
            by_cases c : t = i
            · subst c; exact Or.inr h2.2
            · exact Or.inl ⟨t, h1, by simp only [Bool.and_eq_true, decide_eq_true_eq]; exact ⟨by omega, h2.2⟩⟩
          · rintro (⟨t, h1, h2⟩ | h)
            · simp only [Bool.and_eq_true, decide_eq_true_eq] at h2
              exact ⟨t, h1, by simp only [Bool.and_eq_true, decide_eq_true_eq]; exact ⟨by omega, h2.2⟩⟩
            · exact ⟨i, List.mem_range.mpr hi, by simp only [Bool.and_eq_true, decide_eq_true_eq]; exact ⟨by omega, h⟩⟩
        by_cases c1 : ((st >>> (nI i &&& 31)) &&& (1 : Int32)) = 0
        · rw [if_pos c1]
          have := (hst.t0 hi).mp c1
          refine ⟨v, hI.congr (fun f _ => ?_), rfl⟩
          rw [step]
          have e : (stp (s.testBit 1) a i && (bfr B i && (decide (i ≠ b) && F (prN i b) f))) = false := by
            revert this
            cases stp (s.testBit 1) a i <;> cases bfr B i <;> cases decide (i ≠ b) <;> simp
          rw [e, Bool.or_false]
        · rw [if_neg c1]
          have o1 : (stp (s.testBit 1) a i && (bfr B i && decide (i ≠ b))) = true := by
            have := mt (hst.t0 hi).mpr c1
            simpa using this
          have hne : i ≠ b := by
            simp only [Bool.and_eq_true, decide_eq_true_eq] at o1
            exact o1.2.2
          have hpr := (pr_lohi hi hb hne).1
          rw [pairOf_ok hg hi hb hne, Option.bind_some, knownWith_ok hpr, Option.bind_some]
          refine ⟨_, (hI.or (hF _ hpr)).congr (fun f _ => ?_), rfl⟩
          rw [step]
          have e : (stp (s.testBit 1) a i && (bfr B i && (decide (i ≠ b) && F (prN i b) f))) = F (prN i b) f := by
            revert o1
            cases stp (s.testBit 1) a i <;> cases bfr B i <;> cases decide (i ≠ b) <;> simp
          rw [e, Bool.or_assoc])
      10000 0 st (by omega) (by omega) (hst.congr (fun f _ => by simp))
  obtain ⟨v, h1, h2⟩ := key
  exact ⟨v, h2, h1.congr (fun f _ => by congr 1)⟩
theorem Kn_same (s B r : Nat) {f b : Nat} (hf : f < 16) (hb : b < 16) (e : f ≠ b) : Kn s B r (2048 + 128 * f + prN f b) = false := by
  rw [Bool.eq_false_iff]
  intro h
  have h1 := Kn_pos h
  have h2 := pr_lohi hf hb e
  rw [isPos_f hf h2.1] at h1
  simp only [psP, Bool.and_eq_true, decide_eq_true_eq] at h1
  have := h1.2.2.2
  rw [h2.2.1, h2.2.2] at this
  omega
theorem hs_eq (s B r : Nat) {f a b : Nat} (hf : f < 16) (hb : b < 16) : hStep (Kn s B r) s B f a b = (List.range 16).any fun t => stp (s.testBit 1) a t && (bfr B t && (decide (t ≠ b) && Kn s B r (2048 + 128 * f + prN t b))) := by
  unfold hStep
  rw [Bool.eq_iff_iff, List.any_eq_true, List.any_eq_true]
  constructor
  · rintro ⟨t, h1, h2⟩
    simp only [Bool.and_eq_true, decide_eq_true_eq] at h2
    exact ⟨t, h1, by simp only [Bool.and_eq_true, decide_eq_true_eq]; exact ⟨h2.2.2.2.1, h2.1, h2.2.1, h2.2.2.2.2⟩⟩
  · rintro ⟨t, h1, h2⟩
    simp only [Bool.and_eq_true, decide_eq_true_eq] at h2
    refine ⟨t, h1, ?_⟩
    simp only [Bool.and_eq_true, decide_eq_true_eq]
    refine ⟨h2.2.1, h2.2.2.1, fun e => ?_, h2.1, h2.2.2.2⟩
    subst e
    rw [Kn_same s B r hf hb h2.2.2.1] at h2
    exact absurd h2.2.2.2 (by decide)
/-- the hunters' level of one pair -/
theorem huntersLevel_ok {m : Mem} (hg : GE m) {s B : Nat} (he : EF m s B) {p L : Nat} (hp : p < 120) {r : Nat} {Hh : Nat → Bool} (hr : 1 ≤ r) (hF : ∀ p, p < 120 → msk (m 11 p) (fun f => Kn s B r (2048 + 128 * f + p))) (hH : msk (m 12 p) Hh) :
    ∃ x o, xt_X0_huntersLevel (nI p) (nI L) m = some (x, o) ∧ msk x (fun f => !Hh f && Kn s B (r + 1) (128 * f + p)) ∧ (∀ q, o 12 q = if q = p then m 12 p ||| x else m 12 q) ∧
      ∀ n, n < 4096 → o 10 n = if n / 2048 = 0 ∧ n % 128 = p ∧ bt x (n / 128 % 16) = true then nI L else m 10 n := by
  unfold xt_X0_huntersLevel
  obtain ⟨y, hy, hm⟩ := placesForFox_ok hg he hp
  have hv : vp_in (nI p) 120 := xin rfl hp (by decide)
  have hcl : (nI p).toNatClampNeg = p := cl (by omega)
  have hl := lohi hp
  simp only [hy, Option.bind_some, xgd_in hv, hcl]
  have ho := hm.andn hH
  generalize y &&& (m 12 p ^^^ (-1)) = xo at ho
  by_cases c : xo = 0
  · rw [if_pos c]
    have hz := ho.z.mp c
    refine ⟨_, _, rfl, msk_0.congr (fun f hf => ?_), fun q => ?_, fun n _ => ?_⟩
    · have := hz f hf
      rw [Kn_h s B r hf hp]
      revert this
      cases psP B f p <;> cases Hh f <;> simp
    · by_cases c2 : q = p
      · rw [if_pos c2]
        apply b_ext
        intro i hi
        rw [b_or, b_0, c2]; simp
      · rw [if_neg c2]
    · rw [if_neg]
      rintro ⟨_, _, h⟩
      rw [b_0] at h; cases h
  · rw [if_neg c, lowerOf_ok hg hp, Option.bind_some, higherOf_ok hg hp, Option.bind_some]
    obtain ⟨x1, hx1, hm1⟩ := reachedBy_ok hg he hF (show loP p < 16 by omega) hl.2.1
    obtain ⟨x2, hx2, hm2⟩ := reachedBy_ok hg he hF hl.2.1 (show loP p < 16 by omega)
    rw [hx1, Option.bind_some, hx2, Option.bind_some, he.2.2.2]
    have fin : ∀ (xr : Int32), msk xr (fun f => psP B f p && (!Hh f && (((stp (s.testBit 1) (loP p) f && (bfr B f && decide (f ≠ hiP p))) || hStep (Kn s B r) s B f (loP p) (hiP p)) || ((stp (s.testBit 1) (hiP p) f && (bfr B f && decide (f ≠ loP p))) || hStep (Kn s B r) s B f (hiP p) (loP p)) || (s.testBit 2 && Kn s B r (2048 + 128 * f + p))))) →
        ∃ x o, (Option.bind (xt_X0_keep xr (0 : Int32) (nI p) (nI L) m) (fun (o_7 : Mem) => some (xr, mgs (mset m 12 (upd (m 12) p (m 12 p ||| xr))) [10] o_7))) = some (x, o) ∧ msk x (fun f => !Hh f && Kn s B (r + 1) (128 * f + p)) ∧ (∀ q, o 12 q = if q = p then m 12 p ||| x else m 12 q) ∧
          ∀ n, n < 4096 → o 10 n = if n / 2048 = 0 ∧ n % 128 = p ∧ bt x (n / 128 % 16) = true then nI L else m 10 n := by
      intro xr hxr
      obtain ⟨o, ho1, ho2⟩ := keep_ok (m := m) (w := 0) (p := p) (L := L) hxr (by omega) hp
      have ho1' : xt_X0_keep xr (0 : Int32) (nI p) (nI L) m = some o := ho1
      rw [ho1', Option.bind_some]
      refine ⟨_, _, rfl, hxr.congr (fun f hf => ?_), fun q => ?_, fun n hn => ?_⟩
      · rw [Kn_h s B r hf hp, decide_eq_true hr]
        unfold hCatch
        by_cases z : psP B f p = true
        · rw [z]
          simp only [psP, Bool.and_eq_true, decide_eq_true_eq] at z
          rw [z.1, decide_eq_true z.2.2.2.1, decide_eq_true z.2.2.2.2]
          cases stp (s.testBit 1) (loP p) f <;> cases stp (s.testBit 1) (hiP p) f <;> cases Hh f <;> cases hStep (Kn s B r) s B f (loP p) (hiP p) <;> cases hStep (Kn s B r) s B f (hiP p) (loP p) <;> cases s.testBit 2 <;> cases Kn s B r (2048 + 128 * f + p) <;> rfl
        · have z' : psP B f p = false := by simpa using z
          rw [z']; simp
      · rw [mgs_o _ _ (by decide), mset_s]; rfl
      · rw [mgs_i _ _ (by decide), ho2 n hn, hxr.at (Nat.mod_lt _ (by omega))]
    by_cases c2 : s.testBit 2 = true
    · rw [c2, if_neg (show ¬ bI true = 0 by decide)]
      refine fin _ ((ho.and ((hm1.or hm2).or (hF p hp))).congr (fun f hf => ?_))
      rw [← hs_eq s B r hf hl.2.1, ← hs_eq s B r hf (show loP p < 16 by omega), c2]
      cases psP B f p <;> cases Hh f <;> simp
    · have c2' : s.testBit 2 = false := by simpa using c2
      rw [c2', if_pos (show bI false = 0 by decide)]
      refine fin _ ((ho.and (hm1.or hm2)).congr (fun f hf => ?_))
      rw [← hs_eq s B r hf hl.2.1, ← hs_eq s B r hf (show loP p < 16 by omega), c2']
      cases psP B f p <;> cases Hh f <;> simp
