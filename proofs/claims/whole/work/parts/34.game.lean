/-! ===== moves ===== -/
def fxM (g : Nat → Nat) (t : Nat) : Bool := bfr (g 3) t && (decide (t ≠ g 6) && (decide (t ≠ g 7) && stp ((sOf g).testBit 0) (g 5) t))
def hnM (g : Nat → Nat) (a b t : Nat) : Bool := bfr (g 3) t && (decide (t ≠ b) && stp ((sOf g).testBit 1) a t)
def noM (g : Nat → Nat) : Bool := (List.range 16).all fun t => !fxM g t
def hitS (g : Nat → Nat) : Bool := decide (g 5 = g 6) || decide (g 5 = g 7)
def cau (g : Nat → Nat) : Bool := hitS g || (decide (g 4 = 1) && noM g)
def oth (g : Nat → Nat) (a : Nat) : Nat := if a = g 6 then g 7 else g 6
def legal (g : Nat → Nat) (a b : Nat) : Bool := !cau g && (if g 4 = 1 then decide (a = g 5) && fxM g b else ((decide (a = g 6) || decide (a = g 7)) && (if a = b then (sOf g).testBit 2 else hnM g a (oth g a) b)))
theorem noM_iff {g : Nat → Nat} : noM g = true ↔ ∀ t, t < 16 → fxM g t = false := by
  unfold noM
  rw [List.all_eq_true]
  constructor
  · intro h t ht
    have := h t (List.mem_range.mpr ht)
    simpa using this
  · intro h t ht
    rw [h t (List.mem_range.mp ht)]; rfl
theorem stp_self_chk : bAll 16 (fun a => !stp true a a && !stp false a a) = true := by decide +kernel
theorem stp_self {a : Nat} (ha : a < 16) (c : Bool) : stp c a a = false := by
  have := bAll_e stp_self_chk ha
  rw [Bool.and_eq_true, Bool.not_eq_true', Bool.not_eq_true'] at this
  cases c
  · exact this.2
  · exact this.1
theorem VS.f {g : Nat → Nat} (h : VS g) : g 5 < 16 := h.2.2.2.1
theorem VS.l {g : Nat → Nat} (h : VS g) : g 6 < 16 := by have := h.2.2.2.2.1; omega
theorem VS.h {g : Nat → Nat} (h : VS g) : g 7 < 16 := h.2.2.2.2.1.2
theorem VS.lh {g : Nat → Nat} (h : VS g) : g 6 < g 7 := h.2.2.2.2.1.1
theorem VS.B {g : Nat → Nat} (h : VS g) : g 3 < 65536 := h.2.1.2.1
theorem hunters_ok {c : Nat → Int32} {g : Nat → Nat} (hc : StC c g) (hv : VS g) : ∃ x, xt_X6_hunters c = some x ∧ msk x (fun i => decide (i = g 6) || decide (i = g 7)) := by
  unfold xt_X6_hunters
  rw [hc.2.2.2.2.1, hc.2.2.2.2.2]
  exact ⟨_, rfl, (msk_1 hv.l).or (msk_1 hv.h)⟩
theorem foxSteps_ok {m : Mem} {c : Nat → Int32} {g : Nat → Nat} (hg : GE m) (hc : StC c g) (hv : VS g) : ∃ x, xt_X2_foxSteps c m = some x ∧ msk x (fxM g) := by
  unfold xt_X2_foxSteps
  have s0 : xt_X6_setting (0 : Int32) c = some (bI ((sOf g).testBit 0)) := setting_ok hc hv (k := 0) (by omega)
  obtain ⟨h, h1, h2⟩ := hunters_ok hc hv
  rw [s0, Option.bind_some, hc.2.2.2.1, h1, hc.2.1]
  have fin : ∀ b : Bool, (sOf g).testBit 0 = b → ∃ x, (Option.bind (xt_X3_stepsFrom (nI (g 5)) (bI b) m) (fun (o_4 : Int32) => (Option.bind (some h) (fun (o_5 : Int32) => (some ((o_4 &&& (nI (g 3) ^^^ (-1 : Int32))) &&& (o_5 ^^^ (-1 : Int32)))))))) = some x ∧ msk x (fxM g) := by
    intro b hb
    obtain ⟨x, x1, x2⟩ := stepsFrom_ok hg hv.f b
    rw [x1, Option.bind_some, Option.bind_some]
    refine ⟨_, rfl, ((x2.andn (msk_nI hv.B)).andn h2).congr (fun i _ => ?_)⟩
    unfold fxM bfr
    rw [hb]
    by_cases c6 : i = g 6 <;> by_cases c7 : i = g 7 <;> cases stp b (g 5) i <;> cases (g 3).testBit i <;> simp [c6, c7]
  cases e : (sOf g).testBit 0
  · rw [if_neg (show ¬ bI false = 1 by decide)]; exact fin false e
  · rw [if_pos (show bI true = 1 from rfl)]; exact fin true e
theorem hunterSteps_ok {m : Mem} {c : Nat → Int32} {g : Nat → Nat} (hg : GE m) (hc : StC c g) (hv : VS g) {a : Nat} (ha : a = g 6 ∨ a = g 7) : ∃ x, xt_X2_hunterSteps (nI a) c m = some x ∧ msk x (hnM g a (oth g a)) := by
  unfold xt_X2_hunterSteps
  have s1 : xt_X6_setting (1 : Int32) c = some (bI ((sOf g).testBit 1)) := setting_ok hc hv (k := 1) (by omega)
  obtain ⟨h, h1, h2⟩ := hunters_ok hc hv
  have hl := hv.l
  have hh := hv.h
  have hlh := hv.lh
  have ha16 : a < 16 := by omega
  rw [s1, Option.bind_some, h1, hc.2.1]
  have fin : ∀ b : Bool, (sOf g).testBit 1 = b → ∃ x, (Option.bind (xt_X3_stepsFrom (nI a) (bI b) m) (fun (o_4 : Int32) => (Option.bind (some h) (fun (o_5 : Int32) => (some ((o_4 &&& (nI (g 3) ^^^ (-1 : Int32))) &&& (o_5 ^^^ (-1 : Int32)))))))) = some x ∧ msk x (hnM g a (oth g a)) := by
    intro b hb
    obtain ⟨x, x1, x2⟩ := stepsFrom_ok hg ha16 b
    rw [x1, Option.bind_some, Option.bind_some]
    refine ⟨_, rfl, ((x2.andn (msk_nI hv.B)).andn h2).congr (fun i _ => ?_)⟩
    unfold hnM bfr oth
    rw [hb]
    have z := stp_self ha16 b
    rcases ha with e | e
    · rw [if_pos e]
      by_cases c6 : i = g 6
      · rw [c6, ← e, z]; simp
      · by_cases c7 : i = g 7 <;> cases stp b a i <;> cases (g 3).testBit i <;> simp [c6, c7]
    · rw [if_neg (by omega)]
      by_cases c7 : i = g 7
      · rw [c7, ← e, z]; simp
      · by_cases c6 : i = g 6 <;> cases stp b a i <;> cases (g 3).testBit i <;> simp [c6, c7]
  cases e : (sOf g).testBit 1
  · rw [if_neg (show ¬ bI false = 1 by decide)]; exact fin false e
  · rw [if_pos (show bI true = 1 from rfl)]; exact fin true e
theorem caught_ok {m : Mem} {c : Nat → Int32} {g : Nat → Nat} (hg : GE m) (hc : StC c g) (hv : VS g) : xt_X2_caught c m = some (bI (cau g)) := by
  unfold xt_X2_caught xt_X6_hunterOnFox
  have hl := hv.l
  have hh := hv.h
  have hf := hv.f
  have hw := hv.2.2.1
  rw [hc.2.2.1, hc.2.2.2.1, hc.2.2.2.2.1, hc.2.2.2.2.2]
  have e6 : nI (g 5) = nI (g 6) ↔ g 5 = g 6 := nI_eq (by omega) (by omega)
  have e7 : nI (g 5) = nI (g 7) ↔ g 5 = g 7 := nI_eq (by omega) (by omega)
  have e1 : nI (g 4) = 1 ↔ g 4 = 1 := nI_eq (b := 1) (by omega) (by omega)
  unfold cau hitS
  by_cases c6 : g 5 = g 6
  · rw [if_pos (e6.mpr c6), Option.bind_some, if_neg (by decide), decide_eq_true c6]; rfl
  · rw [if_neg (mt e6.mp c6), decide_eq_false c6]
    by_cases c7 : g 5 = g 7
    · rw [if_pos (e7.mpr c7), Option.bind_some, if_neg (by decide), decide_eq_true c7]; rfl
    · rw [if_neg (mt e7.mp c7), Option.bind_some, if_pos rfl, decide_eq_false c7]
      by_cases c1 : g 4 = 1
      · rw [if_pos (e1.mpr c1), decide_eq_true c1]
        obtain ⟨x, x1, x2⟩ := foxSteps_ok hg hc hv
        rw [x1, Option.bind_some]
        have z : x = 0 ↔ noM g = true := by rw [x2.z, noM_iff]
        cases e : noM g
        · rw [if_neg (fun q => by rw [z.mp q] at e; cases e)]; rfl
        · rw [if_pos (z.mpr e)]; rfl
      · rw [if_neg (mt e1.mp c1), decide_eq_false c1]; rfl
theorem allows_ok {m : Mem} {c : Nat → Int32} {g : Nat → Nat} (hg : GE m) (hc : StC c g) (hv : VS g) {a b : Nat} (ha : a < 16) (hb : b < 16) : xt_X2_allows (nI a) (nI b) c m = some (bI (legal g a b)) := by
  unfold xt_X2_allows
  have hl := hv.l
  have hh := hv.h
  have hf := hv.f
  have hw := hv.2.2.1
  have s2 : xt_X6_setting (2 : Int32) c = some (bI ((sOf g).testBit 2)) := setting_ok hc hv (k := 2) (by omega)
  rw [caught_ok hg hc hv, Option.bind_some, hc.2.2.1, hc.2.2.2.1, hc.2.2.2.2.1, hc.2.2.2.2.2, s2]
  have e1 : nI (g 4) = 1 ↔ g 4 = 1 := nI_eq (b := 1) (by omega) (by omega)
  have e5 : nI a = nI (g 5) ↔ a = g 5 := nI_eq (by omega) (by omega)
  have e6 : nI a = nI (g 6) ↔ a = g 6 := nI_eq (by omega) (by omega)
  have e7 : nI a = nI (g 7) ↔ a = g 7 := nI_eq (by omega) (by omega)
  have eb : nI a = nI b ↔ a = b := nI_eq (by omega) (by omega)
  unfold legal
  cases ec : cau g
  · rw [if_pos (show bI false = 0 by decide), Bool.not_false, Bool.true_and]
    have bit : ∀ (x : Int32) (p : Nat → Bool), msk x p → (if ((x >>> (nI b &&& 31)) &&& (1 : Int32)) = 0 then (some (0 : Int32)) else (some (1 : Int32))) = some (bI (p b)) := by
      intro x p hx
      have := hx.t0 hb
      cases e : p b
      · rw [if_pos (this.mpr e)]; rfl
      · rw [if_neg (fun q => by rw [this.mp q] at e; cases e)]; rfl
    have st2 : (Option.bind (some (bI ((sOf g).testBit 2))) (fun (o_3 : Int32) => (if o_3 = (1 : Int32) then (some (1 : Int32)) else (some (0 : Int32))))) = some (bI ((sOf g).testBit 2)) := by
      cases (sOf g).testBit 2 <;> rfl
    have hunt : (a = g 6 ∨ a = g 7) → (Option.bind (xt_X2_hunterSteps (nI a) c m) (fun (o_2 : Int32) => (if ((o_2 >>> (nI b &&& 31)) &&& (1 : Int32)) = 0 then (some (0 : Int32)) else (some (1 : Int32))))) = some (bI (hnM g a (oth g a) b)) := by
      intro h
      obtain ⟨x, x1, x2⟩ := hunterSteps_ok hg hc hv h
      rw [x1, Option.bind_some]
      exact bit x _ x2
    by_cases c1 : g 4 = 1
    · rw [if_pos (e1.mpr c1), if_pos c1]
      by_cases c5 : a = g 5
      · rw [if_pos (e5.mpr c5), decide_eq_true c5, Bool.true_and]
        obtain ⟨x, x1, x2⟩ := foxSteps_ok hg hc hv
        rw [x1, Option.bind_some]
        exact bit x _ x2
      · rw [if_neg (mt e5.mp c5), decide_eq_false c5]; rfl
    · rw [if_neg (mt e1.mp c1), if_neg c1]
      by_cases c6 : a = g 6
      · rw [if_pos (e6.mpr c6), decide_eq_true c6, Bool.true_or, Bool.true_and]
        by_cases cb : a = b
        · rw [if_pos (eb.mpr cb), if_pos cb, st2]
        · rw [if_neg (mt eb.mp cb), if_neg cb, hunt (Or.inl c6)]
      · rw [if_neg (mt e6.mp c6), decide_eq_false c6, Bool.false_or]
        by_cases c7 : a = g 7
        · rw [if_pos (e7.mpr c7), decide_eq_true c7, Bool.true_and]
          by_cases cb : a = b
          · rw [if_pos (eb.mpr cb), if_pos cb, st2]
          · rw [if_neg (mt eb.mp cb), if_neg cb, hunt (Or.inr c7)]
        · rw [if_neg (mt e7.mp c7), decide_eq_false c7]; rfl
  · rw [if_neg (show ¬ bI true = 0 by decide)]; rfl
/-- the state that a move makes -/
def mk (g : Nat → Nat) (a b : Nat) : Nat → Nat := fun k =>
  if g 4 = 1 then (if k = 4 then 0 else if k = 5 then b else g k)
  else (if k = 4 then 1 else if k = 6 then min b (oth g a) else if k = 7 then max b (oth g a) else g k)
theorem mk_s (g : Nat → Nat) (a b : Nat) : sOf (mk g a b) = sOf g ∧ mk g a b 3 = g 3 ∧ mk g a b 0 = g 0 ∧ mk g a b 1 = g 1 ∧ mk g a b 2 = g 2 := by
  have h : ∀ k, k < 4 → mk g a b k = g k := by
    intro k hk
    unfold mk
    by_cases c : g 4 = 1
    · rw [if_pos c, if_neg (by omega), if_neg (by omega)]
    · rw [if_neg c, if_neg (by omega), if_neg (by omega), if_neg (by omega)]
  exact ⟨sOf_c h, h 3 (by omega), h 0 (by omega), h 1 (by omega), h 2 (by omega)⟩
theorem mk_VS {g : Nat → Nat} (hv : VS g) {a b : Nat} (hb : b < 16) (h : legal g a b = true) : VS (mk g a b) := by
  obtain ⟨m0, m3, k0, k1, k2⟩ := mk_s g a b
  obtain ⟨v0, v1, v2, v3, v4, v5, v6⟩ := hv
  unfold legal at h
  rw [Bool.and_eq_true, Bool.not_eq_true'] at h
  obtain ⟨h1, h2⟩ := h
  refine ⟨by rw [k0, k1, k2]; exact v0, by rw [m0, m3]; exact v1, ?_, ?_, ?_, ?_, ?_⟩
  all_goals (try rw [m3])
  · unfold mk
    by_cases c : g 4 = 1
    · rw [if_pos c, if_pos rfl]; omega
    · rw [if_neg c, if_pos rfl]; omega
  · unfold mk
    by_cases c : g 4 = 1
    · rw [if_pos c, if_neg (by omega), if_pos rfl]; exact hb
    · rw [if_neg c, if_neg (by omega), if_neg (by omega), if_neg (by omega)]; exact v3
  · unfold mk
    by_cases c : g 4 = 1
    · rw [if_pos c, if_pos c, if_neg (by omega), if_neg (by omega), if_neg (by omega), if_neg (by omega)]; exact v4
    · rw [if_neg c] at h2
      rw [if_neg c, if_neg c, if_neg (by omega), if_pos rfl, if_neg (by omega), if_neg (by omega), if_pos rfl]
      rw [Bool.and_eq_true, Bool.or_eq_true, decide_eq_true_eq, decide_eq_true_eq] at h2
      have hne : b ≠ oth g a := by
        by_cases cb : a = b
        · unfold oth
          by_cases c6 : a = g 6
          · rw [if_pos c6]; omega
          · rw [if_neg c6]; omega
        · rw [if_neg cb] at h2
          have := h2.2
          unfold hnM at this
          rw [Bool.and_eq_true, Bool.and_eq_true, decide_eq_true_eq] at this
          exact this.2.1
      have : oth g a < 16 := by
        unfold oth
        by_cases c6 : a = g 6
        · rw [if_pos c6]; omega
        · rw [if_neg c6]; omega
      omega
  · unfold mk
    by_cases c : g 4 = 1
    · rw [if_pos c] at h2
      rw [if_pos c, if_pos c, if_pos c, if_neg (by omega), if_pos rfl, if_neg (by omega), if_neg (by omega), if_neg (by omega), if_neg (by omega)]
      rw [Bool.and_eq_true] at h2
      have := h2.2
      unfold fxM at this
      rw [Bool.and_eq_true] at this
      exact ⟨this.1, v5.2.1, v5.2.2⟩
    · rw [if_neg c] at h2
      rw [if_neg c, if_neg c, if_neg c, if_neg (by omega), if_neg (by omega), if_neg (by omega), if_neg (by omega), if_pos rfl, if_neg (by omega), if_neg (by omega), if_pos rfl]
      rw [Bool.and_eq_true, Bool.or_eq_true, decide_eq_true_eq, decide_eq_true_eq] at h2
      have fb : bfr (g 3) b = true := by
        by_cases cb : a = b
        · rcases h2.1 with e | e
          · rw [← cb, e]; exact v5.2.1
          · rw [← cb, e]; exact v5.2.2
        · rw [if_neg cb] at h2
          have := h2.2
          unfold hnM at this
          rw [Bool.and_eq_true] at this
          exact this.1
      have fo : bfr (g 3) (oth g a) = true := by
        unfold oth
        by_cases c6 : a = g 6
        · rw [if_pos c6]; exact v5.2.2
        · rw [if_neg c6]; exact v5.2.1
      refine ⟨v5.1, ?_, ?_⟩
      · rcases Nat.le_total b (oth g a) with z | z
        · rw [Nat.min_eq_left z]; exact fb
        · rw [Nat.min_eq_right z]; exact fo
      · rcases Nat.le_total b (oth g a) with z | z
        · rw [Nat.max_eq_right z]; exact fo
        · rw [Nat.max_eq_left z]; exact fb
  · intro h4
    unfold mk at h4 ⊢
    by_cases c : g 4 = 1
    · rw [if_pos c] at h2
      rw [if_pos c, if_pos c, if_pos c, if_neg (by omega), if_pos rfl, if_neg (by omega), if_neg (by omega), if_neg (by omega), if_neg (by omega)]
      rw [Bool.and_eq_true] at h2
      have := h2.2
      unfold fxM at this
      rw [Bool.and_eq_true, Bool.and_eq_true, Bool.and_eq_true, decide_eq_true_eq, decide_eq_true_eq] at this
      exact ⟨this.2.1, this.2.2.1⟩
    · rw [if_neg c, if_pos rfl] at h4; omega
theorem place_ok {c : Nat → Int32} {w f a b : Nat} (ha : a < 16) (hb : b < 16) : xt_X6_place (nI w) (nI f) (nI a) (nI b) c = some (upd (upd (upd (upd c 2 (nI w)) 3 (nI f)) 4 (nI (min a b))) 5 (nI (max a b))) := by
  unfold xt_X6_place
  rw [jmin_ok (by omega) (by omega), Option.bind_some, jmax_ok (by omega) (by omega), Option.bind_some]
theorem StC_place {c : Nat → Int32} {g : Nat → Nat} {s B w f a b : Nat} (h0 : c 0 = nI s) (h1 : c 1 = nI B) (e0 : sOf g = s) (e3 : g 3 = B) (e4 : g 4 = w) (e5 : g 5 = f) (e6 : g 6 = min a b) (e7 : g 7 = max a b) : StC (upd (upd (upd (upd c 2 (nI w)) 3 (nI f)) 4 (nI (min a b))) 5 (nI (max a b))) g := by
  subst e0
  subst e3
  subst e4
  subst e5
  refine ⟨?_, ?_, ?_, ?_, ?_, ?_⟩
  · rw [upd_n _ _ (by omega), upd_n _ _ (by omega), upd_n _ _ (by omega), upd_n _ _ (by omega)]; exact h0
  · rw [upd_n _ _ (by omega), upd_n _ _ (by omega), upd_n _ _ (by omega), upd_n _ _ (by omega)]; exact h1
  · rw [upd_n _ _ (by omega), upd_n _ _ (by omega), upd_n _ _ (by omega), upd_s]
  · rw [upd_n _ _ (by omega), upd_n _ _ (by omega), upd_s]
  · rw [upd_n _ _ (by omega), upd_s, e6]
  · rw [upd_s, e7]
theorem make_ok {c : Nat → Int32} {g : Nat → Nat} (hc : StC c g) (hv : VS g) {a b : Nat} (ha : a < 16) (hb : b < 16) : ∃ c', xt_X2_make (nI a) (nI b) c = some c' ∧ StC c' (mk g a b) := by
  unfold xt_X2_make
  have hl := hv.l
  have hh := hv.h
  have hlh := hv.lh
  have hw := hv.2.2.1
  rw [hc.2.2.1, hc.2.2.2.1, hc.2.2.2.2.1, hc.2.2.2.2.2]
  have e1 : nI (g 4) = 1 ↔ g 4 = 1 := nI_eq (b := 1) (by omega) (by omega)
  have e6 : nI a = nI (g 6) ↔ a = g 6 := nI_eq (by omega) (by omega)
  obtain ⟨m0, m3, _⟩ := mk_s g a b
  by_cases c1 : g 4 = 1
  · rw [if_pos (e1.mpr c1), lit 0, place_ok hl hh, Option.bind_some]
    refine ⟨_, rfl, StC_place hc.1 hc.2.1 m0 m3 ?_ ?_ ?_ ?_⟩ <;> unfold mk <;> rw [if_pos c1]
    · rw [if_pos rfl]
    · rw [if_neg (by omega), if_pos rfl]
    · rw [if_neg (by omega), if_neg (by omega), Nat.min_eq_left (by omega)]
    · rw [if_neg (by omega), if_neg (by omega), Nat.max_eq_right (by omega)]
  · rw [if_neg (mt e1.mp c1)]
    have fin : ∀ o, o < 16 → oth g a = o → ∃ c', (Option.bind (xt_X6_place (1 : Int32) (nI (g 5)) (nI b) (nI o) c) (fun (o_2 : (Nat → Int32)) => (some o_2))) = some c' ∧ StC c' (mk g a b) := by
      intro o ho e
      rw [lit 1, place_ok hb ho, Option.bind_some]
      refine ⟨_, rfl, StC_place hc.1 hc.2.1 m0 m3 ?_ ?_ ?_ ?_⟩ <;> unfold mk <;> rw [if_neg c1]
      · rw [if_pos rfl]
      · rw [if_neg (by omega), if_neg (by omega), if_neg (by omega)]
      · rw [if_neg (by omega), if_pos rfl, e]
      · rw [if_neg (by omega), if_neg (by omega), if_pos rfl, e]
    by_cases c6 : a = g 6
    · rw [if_pos (e6.mpr c6)]
      exact fin (g 7) hh (if_pos c6)
    · rw [if_neg (mt e6.mp c6)]
      exact fin (g 6) hl (if_neg c6)
