/-! ===== the best move ===== -/
/-- the first one that is the least of those that are ok, below k -/
def bst (ok : Nat → Bool) (w : Nat → Nat) : Nat → Option Nat
  | 0 => none
  | k + 1 => if ok k then (match bst ok w k with
    | none => some k
    | some j => if w k < w j then some k else some j) else bst ok w k
theorem bst_sk {ok : Nat → Bool} {w : Nat → Nat} {a : Nat} : ∀ d, (∀ j, a ≤ j → j < a + d → ok j = false) → bst ok w (a + d) = bst ok w a := by
  intro d
  induction d with
  | zero => intro _; rfl
  | succ d ih =>
    intro h
    show bst ok w (a + d + 1) = _
    rw [bst, h (a + d) (by omega) (by omega)]
    exact ih (fun j h1 h2 => h j h1 (by omega))
theorem bst_skip {ok : Nat → Bool} {w : Nat → Nat} {a b : Nat} (hab : a ≤ b) (h : ∀ j, a ≤ j → j < b → ok j = false) : bst ok w b = bst ok w a := by
  have := bst_sk (ok := ok) (w := w) (a := a) (b - a) (fun j h1 h2 => h j h1 (by omega))
  rwa [show a + (b - a) = b by omega] at this
theorem bst_ok {ok : Nat → Bool} {w : Nat → Nat} : ∀ k x, bst ok w k = some x → x < k ∧ ok x = true := by
  intro k
  induction k with
  | zero => intro x h; cases h
  | succ k ih =>
    intro x h
    rw [bst] at h
    by_cases c : ok k = true
    · rw [if_pos c] at h
      cases e : bst ok w k with
      | none => rw [e] at h; cases h; exact ⟨by omega, c⟩
      | some j =>
        rw [e] at h
        dsimp only at h
        by_cases c2 : w k < w j
        · rw [if_pos c2, Option.some.injEq] at h; rw [← h]; exact ⟨Nat.lt_succ_self k, c⟩
        · rw [if_neg c2, Option.some.injEq] at h; have h3 := ih j e; rw [← h]; exact ⟨Nat.lt_succ_of_lt h3.1, h3.2⟩
    · rw [if_neg c] at h; have := ih x h; exact ⟨by omega, this.2⟩
theorem bst_none {ok : Nat → Bool} {w : Nat → Nat} {k : Nat} (h : ∀ j, j < k → ok j = false) : bst ok w k = none := bst_skip (Nat.zero_le k) (fun j _ h2 => h j h2)
def od (o : Option Nat) : Nat := match o with
  | none => 1000
  | some d => d
def fxN (g : Nat → Nat) (t : Nat) : Nat := 128 * t + prN (g 6) (g 7)
def hnN (g : Nat → Nat) (a t : Nat) : Nat := 2048 + 128 * g 5 + prN t (oth g a)
def hw (g : Nat → Nat) (a t : Nat) : Nat := if t = g 5 then 0 else 1 + od (Dn (sOf g) (g 3) (hnN g a t))
def fw (g : Nat → Nat) (t : Nat) : Nat := 1000 - od (Dn (sOf g) (g 3) (fxN g t))
def okM (g : Nat → Nat) (k : Nat) : Bool := legal g (k / 16) (k % 16) && decide (k / 16 ≠ k % 16)
def wM (g : Nat → Nat) (k : Nat) : Nat := if g 4 = 1 then fw g (k % 16) else hw g (k / 16) (k % 16)
def best (g : Nat → Nat) : Option Nat :=
  if g 4 = 0 ∧ legal g (g 6) (g 6) = true then (match bst (okM g) (wM g) 256 with
    | none => some (17 * g 6)
    | some j => if hw g (g 6) (g 6) < wM g j then some (17 * g 6) else some j)
  else bst (okM g) (wM g) 256
def bC (o : Option Nat) : Int32 := match o with
  | none => -6
  | some k => nI k
theorem best_cau {g : Nat → Nat} (h : cau g = true) : best g = none := by
  have hl : ∀ a b, legal g a b = false := by intro a b; unfold legal; rw [h]; rfl
  unfold best
  rw [hl, if_neg (by simp)]
  exact bst_none (fun j _ => by unfold okM; rw [hl]; rfl)
theorem best_lt {g : Nat → Nat} (hv : VS g) {k : Nat} (h : best g = some k) : k < 256 ∧ legal g (k / 16) (k % 16) = true := by
  have hl := hv.l
  have hb : ∀ x, bst (okM g) (wM g) 256 = some x → x < 256 ∧ legal g (x / 16) (x % 16) = true := by
    intro x hx
    obtain ⟨h1, h2⟩ := bst_ok _ _ hx
    unfold okM at h2
    rw [Bool.and_eq_true] at h2
    exact ⟨h1, h2.1⟩
  unfold best at h
  by_cases c : g 4 = 0 ∧ legal g (g 6) (g 6) = true
  · rw [if_pos c] at h
    have hp : 17 * g 6 < 256 ∧ legal g (17 * g 6 / 16) (17 * g 6 % 16) = true := by
      refine ⟨by omega, ?_⟩
      rw [show 17 * g 6 / 16 = g 6 by omega, show 17 * g 6 % 16 = g 6 by omega]; exact c.2
    cases e : bst (okM g) (wM g) 256 with
    | none => rw [e] at h; cases h; exact hp
    | some j =>
      rw [e] at h
      dsimp only at h
      by_cases c2 : hw g (g 6) (g 6) < wM g j
      · rw [if_pos c2] at h; cases h; exact hp
      · rw [if_neg c2] at h; cases h; exact hb _ e
  · rw [if_neg c] at h
    exact hb _ h
theorem od_lt {s B n : Nat} : od (Dn s B n) < 60 ∨ od (Dn s B n) = 1000 := by
  cases e : Dn s B n with
  | none => exact Or.inr rfl
  | some x => have := Dn_lt e; exact Or.inl this
/-- a length as the class tells it -/
def cL (o : Option Nat) : Int32 := match o with
  | none => 1000000
  | some d => nI d
def vL (x : Nat) : Int32 := if x = 1000 then 1000000 else nI x
theorem cL_v {s B n : Nat} : cL (Dn s B n) = vL (od (Dn s B n)) := by
  unfold vL
  cases e : Dn s B n with
  | none => rfl
  | some x =>
    have := Dn_lt e
    show nI x = if x = 1000 then _ else nI x
    rw [if_neg (by omega)]
theorem vL_le {x y : Nat} (hx : x < 60 ∨ x = 1000) (hy : y < 60 ∨ y = 1000) : vL x ≤ vL y ↔ x ≤ y := by
  have e : ∀ z, (z < 60 ∨ z = 1000) → vL z = nI (if z = 1000 then 1000000 else z) := by
    intro z _
    unfold vL
    by_cases c : z = 1000
    · rw [if_pos c, if_pos c]; rfl
    · rw [if_neg c, if_neg c]
  rw [e x hx, e y hy]
  by_cases c : x = 1000 <;> by_cases c2 : y = 1000
  · rw [if_pos c, if_pos c2, ble _ _ (by omega) (by omega)]; omega
  · rw [if_pos c, if_neg c2, ble _ _ (by omega) (by omega)]; omega
  · rw [if_neg c, if_pos c2, ble _ _ (by omega) (by omega)]; omega
  · rw [if_neg c, if_neg c2, ble _ _ (by omega) (by omega)]
theorem lengthOf_ok {m : Mem} (hg : GE m) {s B w f a b : Nat} (hd : DE s B m) (hw : w < 2) (hf : f < 16) (ha : a < 16) (hb : b < 16) (e : a ≠ b) : xt_X2_lengthOf (nI w) (nI f) (nI a) (nI b) m = some (cL (Dn s B (2048 * w + 128 * f + prN a b))) := by
  unfold xt_X2_lengthOf
  have hp := (pr_lohi ha hb e).1
  rw [numberOf_ok hg w f ha hb e, Option.bind_some, at_ok hd (by omega), Option.bind_some]
  cases c : Dn s B (2048 * w + 128 * f + prN a b) with
  | none => rw [if_pos (show dI none = -6 from rfl)]; rfl
  | some x =>
    have := Dn_lt c
    rw [if_neg (show ¬ dI (some x) = -6 from nI_m6 (by omega))]; rfl
theorem legal_fox {g : Nat → Nat} (h1 : g 4 = 1) (hc : cau g = false) (a b : Nat) : legal g a b = (decide (a = g 5) && fxM g b) := by
  unfold legal
  rw [hc, if_pos h1]; rfl
theorem legal_hunt {g : Nat → Nat} (h1 : ¬ g 4 = 1) (hc : cau g = false) {a b : Nat} (hab : a ≠ b) : legal g a b = ((decide (a = g 6) || decide (a = g 7)) && hnM g a (oth g a) b) := by
  unfold legal
  rw [hc, if_neg h1, if_neg hab]; rfl
theorem fxM_self {g : Nat → Nat} (hv : VS g) : fxM g (g 5) = false := by
  unfold fxM
  rw [stp_self hv.f]; simp
theorem hnM_self {g : Nat → Nat} {a b : Nat} (ha : a < 16) : hnM g a b a = false := by
  unfold hnM
  rw [stp_self ha]; simp
/-- ok, at a mover's block of sixteen -/
theorem okM_fox {g : Nat → Nat} (hv : VS g) (h1 : g 4 = 1) (hc : cau g = false) {t : Nat} (ht : t < 16) : okM g (16 * g 5 + t) = fxM g t := by
  unfold okM
  rw [show (16 * g 5 + t) / 16 = g 5 by omega, show (16 * g 5 + t) % 16 = t by omega, legal_fox h1 hc, decide_eq_true (rfl : g 5 = g 5), Bool.true_and]
  by_cases c : g 5 = t
  · rw [← c, fxM_self hv]; rfl
  · rw [decide_eq_true c, Bool.and_true]
theorem okM_fox2 {g : Nat → Nat} (h1 : g 4 = 1) (hc : cau g = false) {k : Nat} (h : k / 16 ≠ g 5) : okM g k = false := by
  unfold okM
  rw [legal_fox h1 hc, decide_eq_false h]; rfl
theorem okM_hunt {g : Nat → Nat} (h1 : ¬ g 4 = 1) (hc : cau g = false) {a t : Nat} (ha : a = g 6 ∨ a = g 7) (ha16 : a < 16) (ht : t < 16) : okM g (16 * a + t) = hnM g a (oth g a) t := by
  unfold okM
  rw [show (16 * a + t) / 16 = a by omega, show (16 * a + t) % 16 = t by omega]
  by_cases c : a = t
  · rw [← c, hnM_self ha16]; simp
  · rw [legal_hunt h1 hc c, decide_eq_true (show a ≠ t from c), Bool.and_true]
    rcases ha with e | e <;> rw [decide_eq_true e] <;> simp
theorem okM_hunt2 {g : Nat → Nat} (h1 : ¬ g 4 = 1) (hc : cau g = false) {k : Nat} (h6 : k / 16 ≠ g 6) (h7 : k / 16 ≠ g 7) : okM g k = false := by
  unfold okM
  by_cases c : k / 16 = k % 16
  · rw [decide_eq_false (fun z => z c), Bool.and_false]
  · rw [legal_hunt h1 hc c, decide_eq_false h6, decide_eq_false h7]; rfl
theorem bestOfFox_ok {m : Mem} {c : Nat → Int32} {g : Nat → Nat} (hg : GE m) (hc : StC c g) (hv : VS g) (hd : DE (sOf g) (g 3) m) (h1 : g 4 = 1) (hca : cau g = false) : xt_X2_bestOfFox c m = some (bC (bst (okM g) (wM g) 256)) := by
  unfold xt_X2_bestOfFox
  have hl := hv.l
  have hh := hv.h
  have hf := hv.f
  have hlh := hv.lh
  obtain ⟨x, x1, x2⟩ := foxSteps_ok hg hc hv
  rw [x1, Option.bind_some]
  have wk : ∀ k, wM g k = fw g (k % 16) := fun k => if_pos h1
  have key := lup (fun n (q : Int32 × Int32) v => xt_X2_bestOfFox_l15 x c m (fun (v3_3 : Int32) => (some v3_3)) n q.1 q.2 v) (fun q => some q.1) 16
    (fun i q => q.1 = bC (bst (okM g) (wM g) (16 * g 5 + i)) ∧ (match bst (okM g) (wM g) (16 * g 5 + i) with
      | none => q.2 = -1
      | some j => q.2 = cL (Dn (sOf g) (g 3) (fxN g (j % 16)))))
    (fun n q _ => by
      show xt_X2_bestOfFox_l15 _ _ _ _ (n + 1) q.1 q.2 (nI 16) = _
      rw [xt_X2_bestOfFox_l15, if_pos (show (16 : Int32) ≤ nI 16 by decide)])
    (fun n i q hi hI => by
      obtain ⟨I1, I2⟩ := hI
      show ∃ s', _ ∧ xt_X2_bestOfFox_l15 _ _ _ _ (n + 1) q.1 q.2 (nI i) = _
      rw [xt_X2_bestOfFox_l15, lit 16, if_neg (by rw [ble _ _ (by omega) (by omega)]; omega), nI_1]
      have hok := okM_fox hv h1 hca hi
      have hb : bst (okM g) (wM g) (16 * g 5 + (i + 1)) = if okM g (16 * g 5 + i) then (match bst (okM g) (wM g) (16 * g 5 + i) with
        | none => some (16 * g 5 + i)
        | some j => if wM g (16 * g 5 + i) < wM g j then some (16 * g 5 + i) else some j) else bst (okM g) (wM g) (16 * g 5 + i) := rfl
      rw [hok] at hb
      cases cf : fxM g i
      · rw [if_pos ((x2.t0 hi).mpr cf)]
        rw [cf, if_neg (by decide)] at hb
        refine ⟨q, ⟨by rw [hb]; exact I1, by rw [hb]; exact I2⟩, rfl⟩
      · rw [if_neg (fun z => by rw [(x2.t0 hi).mp z] at cf; cases cf), hc.2.2.2.2.1, hc.2.2.2.2.2, hc.2.2.2.1]
        have hL := lengthOf_ok hg (w := 0) (f := i) hd (by omega) hi hl hh (by omega)
        have hL' : xt_X2_lengthOf (0 : Int32) (nI i) (nI (g 6)) (nI (g 7)) m = some (cL (Dn (sOf g) (g 3) (fxN g i))) := by
          rw [show 2048 * 0 + 128 * i + prN (g 6) (g 7) = fxN g i by unfold fxN; omega] at hL
          exact hL
        rw [hL', Option.bind_some, pk_mul, nI_add]
        rw [cf, if_pos rfl] at hb
        have hk : wM g (16 * g 5 + i) = fw g i := by rw [wk, show (16 * g 5 + i) % 16 = i by omega]
        have od1 := od_lt (s := sOf g) (B := g 3) (n := fxN g i)
        have new : ∀ (h : bst (okM g) (wM g) (16 * g 5 + (i + 1)) = some (16 * g 5 + i)), (nI (16 * g 5 + i) = bC (bst (okM g) (wM g) (16 * g 5 + (i + 1))) ∧ (match bst (okM g) (wM g) (16 * g 5 + (i + 1)) with
            | none => cL (Dn (sOf g) (g 3) (fxN g i)) = -1
            | some j => cL (Dn (sOf g) (g 3) (fxN g i)) = cL (Dn (sOf g) (g 3) (fxN g (j % 16))))) := by
          intro h
          rw [h]
          refine ⟨rfl, ?_⟩
          dsimp only
          rw [show (16 * g 5 + i) % 16 = i by omega]
        cases e : bst (okM g) (wM g) (16 * g 5 + i) with
        | none =>
          rw [e] at hb I2
          dsimp only at hb I2
          have cmp : ¬ cL (Dn (sOf g) (g 3) (fxN g i)) ≤ q.2 := by
            rw [I2, cL_v]
            intro z
            have : (0 : Int32) ≤ vL (od (Dn (sOf g) (g 3) (fxN g i))) := by
              unfold vL
              by_cases cc : od (Dn (sOf g) (g 3) (fxN g i)) = 1000
              · rw [if_pos cc]; decide
              · rw [if_neg cc]; exact nI_pos' (by omega)
            exact absurd (Int32.le_trans this z) (by decide)
          rw [if_neg cmp]
          exact ⟨(_, _), new hb, rfl⟩
        | some j =>
          rw [e] at hb I2
          dsimp only at hb I2
          have od2 := od_lt (s := sOf g) (B := g 3) (n := fxN g (j % 16))
          have cmp : cL (Dn (sOf g) (g 3) (fxN g i)) ≤ q.2 ↔ ¬ wM g (16 * g 5 + i) < wM g j := by
            rw [I2, cL_v, cL_v, vL_le od1 od2, hk, wk]
            unfold fw
            omega
          by_cases cc : wM g (16 * g 5 + i) < wM g j
          · rw [if_neg (fun z => cmp.mp z cc)]
            rw [if_pos cc] at hb
            exact ⟨(_, _), new hb, rfl⟩
          · rw [if_pos (cmp.mpr cc)]
            rw [if_neg cc] at hb
            refine ⟨q, ⟨by rw [hb, I1, e], by rw [hb]; exact I2⟩, rfl⟩)
    10000 0 ((-6 : Int32), (-1 : Int32)) (by omega) (by omega) (by
      have : bst (okM g) (wM g) (16 * g 5 + 0) = none := bst_none (fun j hj => okM_fox2 h1 hca (by omega))
      rw [this]
      exact ⟨rfl, rfl⟩)
  obtain ⟨q, ⟨I1, _⟩, h2⟩ := key
  have h2' : xt_X2_bestOfFox_l15 x c m (fun (v3_3 : Int32) => (some v3_3)) 10000 (-6 : Int32) (-1 : Int32) (0 : Int32) = _ := h2
  rw [h2', I1, bst_skip (a := 16 * g 5 + 16) (b := 256) (by omega) (fun j j1 j2 => okM_fox2 h1 hca (by omega))]
