/-! ===== a round of the reference ===== -/
theorem foxG_some {q : Nat → Option Nat} {s B f p : Nat} : ∀ (k i most M : Nat), foxG q s B f p k i most = some M → most ≤ M ∧ (∀ t, i ≤ t → t < i + k → fMv s B f p t = true → ∃ d, q (128 * t + p) = some d ∧ d + 1 ≤ M) ∧ (M = most ∨ ∃ t d, i ≤ t ∧ t < i + k ∧ fMv s B f p t = true ∧ q (128 * t + p) = some d ∧ d + 1 = M) := by
  intro k
  induction k with
  | zero => intro i most M h; cases h; exact ⟨Nat.le_refl _, fun t h1 h2 => by omega, Or.inl rfl⟩
  | succ k ih =>
    intro i most M h
    rw [foxG] at h
    by_cases c : fMv s B f p i = true
    · rw [if_pos c] at h
      cases e : q (128 * i + p) with
      | none => rw [e] at h; cases h
      | some d =>
        rw [e] at h
        obtain ⟨h1, h2, h3⟩ := ih _ _ _ h
        refine ⟨by omega, fun t t1 t2 t3 => ?_, ?_⟩
        · rcases Nat.eq_or_lt_of_le t1 with z | z
          · subst z; exact ⟨d, e, by omega⟩
          · exact h2 t z (by omega) t3
        · rcases h3 with h3 | ⟨t, d', t1, t2, t3, t4, t5⟩
          · rcases Nat.le_total most (d + 1) with z | z
            · right; exact ⟨i, d, Nat.le_refl _, by omega, c, e, by omega⟩
            · left; omega
          · right; exact ⟨t, d', by omega, by omega, t3, t4, t5⟩
    · rw [if_neg c] at h
      obtain ⟨h1, h2, h3⟩ := ih _ _ _ h
      refine ⟨h1, fun t t1 t2 t3 => ?_, ?_⟩
      · rcases Nat.eq_or_lt_of_le t1 with z | z
        · subst z; exact absurd t3 c
        · exact h2 t z (by omega) t3
      · rcases h3 with h3 | ⟨t, d', t1, t2, t3, t4, t5⟩
        · exact Or.inl h3
        · right; exact ⟨t, d', by omega, by omega, t3, t4, t5⟩
theorem foxG_ex {q : Nat → Option Nat} {s B f p : Nat} : ∀ (k i most : Nat), (∀ t, i ≤ t → t < i + k → fMv s B f p t = true → ∃ d, q (128 * t + p) = some d) → ∃ M, foxG q s B f p k i most = some M := by
  intro k
  induction k with
  | zero => intro i most _; exact ⟨most, rfl⟩
  | succ k ih =>
    intro i most h
    rw [foxG]
    by_cases c : fMv s B f p i = true
    · rw [if_pos c]
      obtain ⟨d, e⟩ := h i (Nat.le_refl _) (by omega) c
      rw [e]
      exact ih _ _ (fun t t1 t2 => h t (by omega) (by omega))
    · rw [if_neg c]
      exact ih _ _ (fun t t1 t2 => h t (by omega) (by omega))
theorem fEsc_iff {q : Nat → Bool} {s B f p : Nat} : fEsc q s B f p = true ↔ ∀ t, t < 16 → fMv s B f p t = true → q (128 * t + p) = true := by
  unfold fEsc fMv
  rw [List.all_eq_true]
  constructor
  · intro h t ht hm
    have := h t (List.mem_range.mpr ht)
    rw [Bool.or_eq_true] at this
    rcases this with h1 | h1
    · rw [hm] at h1; cases h1
    · exact h1
  · intro h t ht
    have := h t (List.mem_range.mp ht)
    rw [Bool.or_eq_true]
    by_cases c : (bfr B t && (decide (t ≠ loP p) && (decide (t ≠ hiP p) && stp (s.testBit 0) f t))) = true
    · exact Or.inr (this c)
    · left; rw [Bool.eq_false_iff.mpr c]; rfl
/-- what is held fits what is known with r moves -/
def QF (q : Nat → Option Nat) (s B r : Nat) : Prop := (∀ n d, n < 4096 → q n = some d → Kn s B (d + 1) n = true) ∧ (∀ n, n < 4096 → Kn s B r n = true → ∃ d, d < r ∧ q n = some d)
theorem fox_val {q : Nat → Option Nat} {s B r f p : Nat} (hq : QF q s B r) (hf : f < 16) (hp : p < 120) (hpos : psP B f p = true) (hn : Kn s B r (2048 + 128 * f + p) = false) :
    foxG q s B f p 16 0 0 = some r ↔ Kn s B (r + 1) (2048 + 128 * f + p) = true := by
  rw [Kn_f s B r hf hp, hpos, Bool.true_and, fEsc_iff]
  constructor
  · intro h t ht hm
    obtain ⟨_, h2, _⟩ := foxG_some _ _ _ _ h
    obtain ⟨d, e, hd⟩ := h2 t (by omega) (by omega) hm
    exact Kn_mono s B _ hd (hq.1 _ d (by omega) e)
  · intro h
    obtain ⟨M, hM⟩ := foxG_ex (q := q) (s := s) (B := B) (f := f) (p := p) 16 0 0 (fun t _ t2 t3 => by
      obtain ⟨d, _, e⟩ := hq.2 _ (by omega) (h t (by omega) t3)
      exact ⟨d, e⟩)
    obtain ⟨h1, h2, h3⟩ := foxG_some _ _ _ _ hM
    have hle : M ≤ r := by
      rcases h3 with h3 | ⟨t, d, t1, t2, t3, t4, t5⟩
      · omega
      · obtain ⟨d', h5, h6⟩ := hq.2 _ (by omega) (h t (by omega) t3)
        rw [t4] at h6; cases h6; omega
    rw [hM]
    congr 1
    rcases Nat.lt_or_ge M r with z | z
    · exfalso
      have : Kn s B r (2048 + 128 * f + p) = true := by
        obtain ⟨r', rfl⟩ : ∃ r', r = r' + 1 := ⟨r - 1, by omega⟩
        rw [Kn_f s B r' hf hp, hpos, Bool.true_and, fEsc_iff]
        intro t ht hm
        obtain ⟨d, e, hd⟩ := h2 t (by omega) (by omega) hm
        exact Kn_mono s B _ (show d + 1 ≤ r' by omega) (hq.1 _ d (by omega) e)
      rw [hn] at this; cases this
    · omega
theorem omin_some {a b : Option Nat} {x : Nat} (h : omin a b = some x) : (a = some x ∨ b = some x) ∧ (∀ y, a = some y → x ≤ y) ∧ (∀ y, b = some y → x ≤ y) := by
  cases a with
  | none =>
    have h' : b = some x := h
    exact ⟨Or.inr h', fun y e => (by cases e), fun y e => by rw [h'] at e; cases e; exact Nat.le_refl _⟩
  | some u =>
    cases b with
    | none => cases h; exact ⟨Or.inl rfl, fun y e => by cases e; exact Nat.le_refl _, fun y e => (by cases e)⟩
    | some v =>
      have h' : min u v = x := Option.some.inj h
      refine ⟨?_, fun y e => by cases e; omega, fun y e => by cases e; omega⟩
      rcases Nat.le_total u v with z | z
      · left; rw [← h', Nat.min_eq_left z]
      · right; rw [← h', Nat.min_eq_right z]
theorem omin_ex {a b : Option Nat} : (∀ x, a = some x → ∃ y, omin a b = some y ∧ y ≤ x) ∧ (∀ x, b = some x → ∃ y, omin a b = some y ∧ y ≤ x) := by
  cases a with
  | none => exact ⟨fun x h => (by cases h), fun x h => ⟨x, h, Nat.le_refl _⟩⟩
  | some u =>
    cases b with
    | none => exact ⟨fun x h => ⟨x, h, Nat.le_refl _⟩, fun x h => (by cases h)⟩
    | some v => exact ⟨fun x h => by cases h; exact ⟨min u v, rfl, by omega⟩, fun x h => by cases h; exact ⟨min u v, rfl, by omega⟩⟩
theorem hunG_some {q : Nat → Option Nat} {s B f a b : Nat} : ∀ (k i : Nat) (least : Option Nat) (x : Nat), hunG q s B f a b k i least = some x → (least = some x ∨ ∃ t, i ≤ t ∧ t < i + k ∧ hMv s B f a b t = true ∧ q (2048 + 128 * f + prN t b) = some x) := by
  intro k
  induction k with
  | zero => intro i least x h; exact Or.inl h
  | succ k ih =>
    intro i least x h
    rw [hunG] at h
    rcases ih _ _ _ h with h1 | ⟨t, t1, t2, t3, t4⟩
    · by_cases c : hMv s B f a b i = true
      · rw [if_pos c] at h1
        rcases (omin_some h1).1 with h2 | h2
        · exact Or.inl h2
        · exact Or.inr ⟨i, Nat.le_refl _, by omega, c, h2⟩
      · rw [if_neg c] at h1; exact Or.inl h1
    · exact Or.inr ⟨t, by omega, by omega, t3, t4⟩
theorem hunG_ex {q : Nat → Option Nat} {s B f a b : Nat} : ∀ (k i : Nat) (least : Option Nat), (∀ x, least = some x → ∃ y, hunG q s B f a b k i least = some y ∧ y ≤ x) ∧ (∀ t x, i ≤ t → t < i + k → hMv s B f a b t = true → q (2048 + 128 * f + prN t b) = some x → ∃ y, hunG q s B f a b k i least = some y ∧ y ≤ x) := by
  intro k
  induction k with
  | zero => intro i least; exact ⟨fun x h => ⟨x, h, Nat.le_refl _⟩, fun t x t1 t2 => by omega⟩
  | succ k ih =>
    intro i least
    rw [hunG]
    obtain ⟨h1, h2⟩ := ih (i + 1) (if hMv s B f a b i then omin least (q (2048 + 128 * f + prN i b)) else least)
    refine ⟨fun x h => ?_, fun t x t1 t2 t3 t4 => ?_⟩
    · by_cases c : hMv s B f a b i = true
      · rw [if_pos c] at h1 ⊢
        obtain ⟨y, e, hy⟩ := (omin_ex (a := least) (b := q (2048 + 128 * f + prN i b))).1 x h
        obtain ⟨z, e2, hz⟩ := h1 y e
        exact ⟨z, e2, by omega⟩
      · rw [if_neg c] at h1 ⊢
        exact h1 x h
    · rcases Nat.eq_or_lt_of_le t1 with z | z
      · subst z
        rw [if_pos t3] at h1 ⊢
        obtain ⟨y, e, hy⟩ := (omin_ex (a := least) (b := q (2048 + 128 * f + prN i b))).2 x t4
        obtain ⟨w, e2, hz⟩ := h1 y e
        exact ⟨w, e2, by omega⟩
      · exact h2 t x z (by omega) t3 t4
theorem hStep_iff {q : Nat → Bool} {s B f a b : Nat} : hStep q s B f a b = true ↔ ∃ t, t < 16 ∧ hMv s B f a b t = true ∧ q (2048 + 128 * f + prN t b) = true := by
  unfold hStep hMv
  rw [List.any_eq_true]
  constructor
  · rintro ⟨t, h1, h2⟩
    simp only [Bool.and_eq_true] at h2
    exact ⟨t, List.mem_range.mp h1, by simp only [Bool.and_eq_true]; exact ⟨h2.1, h2.2.1, h2.2.2.1, h2.2.2.2.1⟩, h2.2.2.2.2⟩
  · rintro ⟨t, h1, h2, h3⟩
    simp only [Bool.and_eq_true] at h2
    exact ⟨t, List.mem_range.mpr h1, by simp only [Bool.and_eq_true]; exact ⟨h2.1, h2.2.1, h2.2.2.1, h2.2.2.2, h3⟩⟩
/-- a hunters' move that is known: by which of the three ways -/
theorem Kn_h_iff (s B r : Nat) {f p : Nat} (hf : f < 16) (hp : p < 120) (hpos : psP B f p = true) : Kn s B (r + 1) (128 * f + p) = true ↔ (1 ≤ r ∧ hCatch s f p = true) ∨ (∃ t, t < 16 ∧ hMv s B f (loP p) (hiP p) t = true ∧ Kn s B r (2048 + 128 * f + prN t (hiP p)) = true) ∨ (∃ t, t < 16 ∧ hMv s B f (hiP p) (loP p) t = true ∧ Kn s B r (2048 + 128 * f + prN t (loP p)) = true) ∨ (s.testBit 2 = true ∧ Kn s B r (2048 + 128 * f + p) = true) := by
  rw [Kn_h s B r hf hp, hpos, Bool.true_and, Bool.or_eq_true, Bool.or_eq_true, Bool.or_eq_true, Bool.and_eq_true, Bool.and_eq_true, decide_eq_true_eq, hStep_iff, hStep_iff]
theorem hMv_ne {s B f a b t : Nat} (h : hMv s B f a b t = true) : t ≠ b := by
  unfold hMv at h
  simp only [Bool.and_eq_true, decide_eq_true_eq] at h
  exact h.2.1
theorem hun_val {q : Nat → Option Nat} {s B r f p : Nat} (hq : QF q s B r) (hf : f < 16) (hp : p < 120) (hpos : psP B f p = true) (hn : Kn s B r (128 * f + p) = false) :
    hunV q s B f p = some r ↔ Kn s B (r + 1) (128 * f + p) = true := by
  have hl := lohi hp
  have n1 : ∀ t, t < 16 → t ≠ hiP p → 2048 + 128 * f + prN t (hiP p) < 4096 := fun t ht e => by have := (pr_lohi ht hl.2.1 e).1; omega
  have n2 : ∀ t, t < 16 → t ≠ loP p → 2048 + 128 * f + prN t (loP p) < 4096 := fun t ht e => by have := (pr_lohi ht (show loP p < 16 by omega) e).1; omega
  unfold hunV
  by_cases hc : hCatch s f p = true
  · rw [if_pos hc]
    constructor
    · intro h
      have : r = 1 := (Option.some.inj h).symm
      subst this
      rw [Kn_h_iff s B 1 hf hp hpos]
      exact Or.inl ⟨Nat.le_refl _, hc⟩
    · intro h
      rcases Nat.lt_or_ge r 1 with z | z
      · have : r = 0 := by omega
        subst this
        rw [Kn_h_iff s B 0 hf hp hpos] at h
        rcases h with h | ⟨t, _, _, h⟩ | ⟨t, _, _, h⟩ | ⟨_, h⟩
        · omega
        · cases h
        · cases h
        · cases h
      · rcases Nat.lt_or_ge 1 r with z2 | z2
        · exfalso
          obtain ⟨r', rfl⟩ : ∃ r', r = r' + 1 := ⟨r - 1, by omega⟩
          have : Kn s B (r' + 1) (128 * f + p) = true := by
            rw [Kn_h_iff s B r' hf hp hpos]
            exact Or.inl ⟨by omega, hc⟩
          rw [hn] at this; cases this
        · congr 1; omega
  · rw [if_neg hc]
    have g1 := hunG_some (q := q) (s := s) (B := B) (f := f) (a := loP p) (b := hiP p) 16 0 none
    have g2 := hunG_some (q := q) (s := s) (B := B) (f := f) (a := hiP p) (b := loP p) 16 0 none
    have e1 := (hunG_ex (q := q) (s := s) (B := B) (f := f) (a := loP p) (b := hiP p) 16 0 none).2
    have e2 := (hunG_ex (q := q) (s := s) (B := B) (f := f) (a := hiP p) (b := loP p) 16 0 none).2
    generalize hunG q s B f (loP p) (hiP p) 16 0 none = u1 at g1 e1
    generalize hunG q s B f (hiP p) (loP p) 16 0 none = u2 at g2 e2
    obtain ⟨u, hu, hu1, hu2⟩ : ∃ u, (if s.testBit 2 then omin (omin u1 u2) (q (2048 + 128 * f + p)) else omin u1 u2) = u ∧
        (∀ x, u = some x → (u1 = some x ∨ u2 = some x ∨ (s.testBit 2 = true ∧ q (2048 + 128 * f + p) = some x))) ∧
        (∀ x, (u1 = some x ∨ u2 = some x ∨ (s.testBit 2 = true ∧ q (2048 + 128 * f + p) = some x)) → ∃ y, u = some y ∧ y ≤ x) := by
      by_cases c : s.testBit 2 = true
      · refine ⟨_, rfl, fun x h => ?_, fun x h => ?_⟩
        · rw [if_pos c] at h
          rcases (omin_some h).1 with h | h
          · rcases (omin_some h).1 with h | h
            · exact Or.inl h
            · exact Or.inr (Or.inl h)
          · exact Or.inr (Or.inr ⟨c, h⟩)
        · rw [if_pos c]
          have up : ∀ x, (∃ y, omin u1 u2 = some y ∧ y ≤ x) → ∃ y, omin (omin u1 u2) (q (2048 + 128 * f + p)) = some y ∧ y ≤ x := by
            rintro x ⟨y, h1, h2⟩
            obtain ⟨z, h3, h4⟩ := (omin_ex (a := omin u1 u2) (b := q (2048 + 128 * f + p))).1 y h1
            exact ⟨z, h3, by omega⟩
          rcases h with h | h | ⟨_, h⟩
          · exact up x (omin_ex.1 x h)
          · exact up x (omin_ex.2 x h)
          · exact omin_ex.2 x h
      · refine ⟨_, rfl, fun x h => ?_, fun x h => ?_⟩
        · rw [if_neg c] at h
          rcases (omin_some h).1 with h | h
          · exact Or.inl h
          · exact Or.inr (Or.inl h)
        · rw [if_neg c]
          rcases h with h | h | ⟨h, _⟩
          · exact omin_ex.1 x h
          · exact omin_ex.2 x h
          · exact absurd h c
    show (match (if s.testBit 2 then omin (omin u1 u2) (q (2048 + 128 * f + p)) else omin u1 u2) with | none => none | some x => some (x + 1)) = some r ↔ _
    rw [hu]
    -- what u holds is a move that is known
    have known : ∀ x, u = some x → Kn s B (x + 2) (128 * f + p) = true := by
      intro x h
      rw [Kn_h_iff s B (x + 1) hf hp hpos]
      rcases hu1 x h with h | h | ⟨h0, h⟩
      · rcases g1 x h with h | ⟨t, _, t2, t3, t4⟩
        · cases h
        · exact Or.inr (Or.inl ⟨t, by omega, t3, hq.1 _ x (n1 t (by omega) (hMv_ne t3)) t4⟩)
      · rcases g2 x h with h | ⟨t, _, t2, t3, t4⟩
        · cases h
        · exact Or.inr (Or.inr (Or.inl ⟨t, by omega, t3, hq.1 _ x (n2 t (by omega) (hMv_ne t3)) t4⟩))
      · exact Or.inr (Or.inr (Or.inr ⟨h0, hq.1 _ x (by omega) h⟩))
    constructor
    · intro h
      cases e : u with
      | none => rw [e] at h; cases h
      | some x =>
        rw [e] at h
        have : x + 1 = r := Option.some.inj h
        rw [← this]; exact known x e
    · intro h
      have : ∃ y, u = some y ∧ y < r := by
        rw [Kn_h_iff s B r hf hp hpos] at h
        rcases h with h | ⟨t, t1, t2, h⟩ | ⟨t, t1, t2, h⟩ | ⟨h0, h⟩
        · exact absurd h.2 hc
        · obtain ⟨d, hd, hd2⟩ := hq.2 _ (n1 t t1 (hMv_ne t2)) h
          obtain ⟨y, hy, hy2⟩ := e1 t d (by omega) (by omega) t2 hd2
          obtain ⟨z, hz, hz2⟩ := hu2 y (Or.inl hy)
          exact ⟨z, hz, by omega⟩
        · obtain ⟨d, hd, hd2⟩ := hq.2 _ (n2 t t1 (hMv_ne t2)) h
          obtain ⟨y, hy, hy2⟩ := e2 t d (by omega) (by omega) t2 hd2
          obtain ⟨z, hz, hz2⟩ := hu2 y (Or.inr (Or.inl hy))
          exact ⟨z, hz, by omega⟩
        · obtain ⟨d, hd, hd2⟩ := hq.2 _ (by omega) h
          obtain ⟨z, hz, hz2⟩ := hu2 d (Or.inr (Or.inr ⟨h0, hd2⟩))
          exact ⟨z, hz, by omega⟩
      obtain ⟨y, hy, hy2⟩ := this
      rw [hy]
      show some (y + 1) = some r
      congr 1
      rcases Nat.lt_or_ge (y + 1) r with z | z
      · exfalso
        have := Kn_mono s B _ (show y + 2 ≤ r by omega) (known y hy)
        rw [hn] at this; cases this
      · omega
