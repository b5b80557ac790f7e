/-! ===== what is told of all positions ===== -/
def St (B n : Nat) : Bool := isPos B n && decide (lowA B n = n)
def kyN (n : Nat) : Nat := 49 * (n / 2048) + 7 * min (farN (n / 128 % 16) (loP (n % 128))) (farN (n / 128 % 16) (hiP (n % 128))) + max (farN (n / 128 % 16) (loP (n % 128))) (farN (n / 128 % 16) (hiP (n % 128)))
theorem farN_chk : bAll 16 (fun a => bAll 16 (fun b => decide (farN a b ≤ 6))) = true := by decide +kernel
theorem farN_le {a b : Nat} (ha : a < 16) (hb : b < 16) : farN a b ≤ 6 := of_decide_eq_true (bAll_e (bAll_e farN_chk ha) hb)
theorem kyN_lt {n : Nat} (hn : n < 4096) (hp : n % 128 < 120) : kyN n < 98 := by
  have hl := lohi hp
  have h1 := farN_le (show n / 128 % 16 < 16 from Nat.mod_lt _ (by omega)) (show loP (n % 128) < 16 by omega)
  have h2 := farN_le (show n / 128 % 16 < 16 from Nat.mod_lt _ (by omega)) hl.2.1
  unfold kyN
  generalize farN (n / 128 % 16) (loP (n % 128)) = a at *
  generalize farN (n / 128 % 16) (hiP (n % 128)) = b at *
  omega
theorem Dn_lt {s B n x : Nat} (h : Dn s B n = some x) : x < 60 := fstK_lt h
theorem Dn_pos {s B n x : Nat} (h : Dn s B n = some x) : isPos B n = true := Kn_pos (fstK_le h).2
theorem Dn_nopos {s B n : Nat} (h : isPos B n = false) : Dn s B n = none := by
  cases e : Dn s B n with
  | none => rfl
  | some x => rw [Dn_pos e] at h; cases h
theorem St_pos {B n : Nat} (h : St B n = true) : isPos B n = true := by unfold St at h; rw [Bool.and_eq_true] at h; exact h.1
theorem St_120 {B n : Nat} (h : St B n = true) : n % 128 < 120 := isPos_120 (St_pos h)
/-- how many stand for themselves, with a key and a distance, below N -/
def Fq (s B key : Nat) (o : Option Nat) (n : Nat) : Bool := St B n && (decide (kyN n = key) && decide (Dn s B n = o))
def FN (s B key : Nat) (o : Option Nat) (N : Nat) : Nat := cntE (Fq s B key o) N
/-- the first one of those that are as common, below k -/
def amx (F : Option Nat → Nat) : Nat → Nat × Option Nat
  | 0 => (0, none)
  | k + 1 => if (amx F k).1 < F (some k) then (F (some k), some k) else amx F k
def tldF (F : Option Nat → Nat) : Int32 := if (amx F 60).1 < F none then -6 else match (amx F 60).2 with
  | none => -1
  | some x => nI x
def tld (s B key : Nat) : Int32 := tldF (fun o => FN s B key o 4096)
theorem amx_lt (F : Option Nat → Nat) : ∀ k x, (amx F k).2 = some x → x < k ∧ (amx F k).1 = F (some x) ∧ 0 < F (some x) := by
  intro k
  induction k with
  | zero => intro x h; cases h
  | succ k ih =>
    intro x h
    rw [amx] at h ⊢
    by_cases c : (amx F k).1 < F (some k)
    · rw [if_pos c] at h ⊢; cases h; exact ⟨by omega, rfl, by omega⟩
    · rw [if_neg c] at h ⊢; have := ih x h; exact ⟨by omega, this.2⟩
theorem amx_none (F : Option Nat → Nat) : ∀ k, (amx F k).2 = none → (amx F k).1 = 0 ∧ ∀ x, x < k → F (some x) = 0 := by
  intro k
  induction k with
  | zero => intro _; exact ⟨rfl, fun x h => absurd h (by omega)⟩
  | succ k ih =>
    intro h
    rw [amx] at h ⊢
    by_cases c : (amx F k).1 < F (some k)
    · rw [if_pos c] at h; cases h
    · rw [if_neg c] at h ⊢
      obtain ⟨h1, h2⟩ := ih h
      refine ⟨h1, fun x hx => ?_⟩
      by_cases e : x = k
      · subst e; omega
      · exact h2 x (by omega)
theorem tldF_cases (F : Option Nat → Nat) : (tldF F = -6) ∨ (tldF F = -1) ∨ ∃ x, x < 60 ∧ tldF F = nI x := by
  unfold tldF
  by_cases c : (amx F 60).1 < F none
  · rw [if_pos c]; exact Or.inl rfl
  · rw [if_neg c]
    cases e : (amx F 60).2 with
    | none => exact Or.inr (Or.inl rfl)
    | some x => exact Or.inr (Or.inr ⟨x, (amx_lt F 60 x e).1, rfl⟩)
theorem cntE_mono (q : Nat → Bool) {a b : Nat} (h : a ≤ b) : cntE q a ≤ cntE q b := by
  induction h with
  | refl => exact Nat.le_refl _
  | step _ ih => exact Nat.le_trans ih (Nat.le_add_right _ _)
theorem cntE_0 (q : Nat → Bool) : ∀ N, (∀ n, n < N → q n = false) → cntE q N = 0 := by
  intro N
  induction N with
  | zero => intro _; rfl
  | succ N ih =>
    intro h
    show cntE q N + (if q N = true then 1 else 0) = 0
    rw [ih (fun n hn => h n (by omega)), h N (by omega)]; rfl
theorem cntE_pos {q : Nat → Bool} {n N : Nat} (h : n < N) (hq : q n = true) : 0 < cntE q N := by
  have h1 : cntE q (n + 1) ≤ cntE q N := cntE_mono q (by omega)
  have h2 : cntE q (n + 1) = cntE q n + 1 := by show cntE q n + (if q n = true then 1 else 0) = _; rw [if_pos hq]
  omega
theorem cntE_none {q : Nat → Bool} {a b : Nat} (hab : a ≤ b) (h : cntE q a = cntE q b) : ∀ j, a ≤ j → j < b → q j = false := by
  intro j h1 h2
  rw [← Bool.not_eq_true]
  intro c
  have e1 : cntE q (j + 1) = cntE q j + 1 := by show cntE q j + (if q j = true then 1 else 0) = _; rw [if_pos c]
  have e2 := cntE_mono q h1
  have e3 : cntE q (j + 1) ≤ cntE q b := cntE_mono q (by omega)
  omega
theorem cntE_next {q : Nat → Bool} {a b : Nat} (h : cntE q a < cntE q b) : ∃ n, a ≤ n ∧ n < b ∧ q n = true ∧ (∀ j, a ≤ j → j < n → q j = false) ∧ cntE q n = cntE q a := by
  have hab : a ≤ b := by
    rcases Nat.lt_or_ge b a with z | z
    · have := cntE_mono q (show b ≤ a by omega); omega
    · exact z
  obtain ⟨d, hd⟩ : ∃ d, b = a + d := ⟨b - a, by omega⟩
  clear hab
  induction d generalizing b with
  | zero => rw [hd, Nat.add_zero] at h; omega
  | succ d ih =>
    by_cases c : cntE q a < cntE q (a + d)
    · obtain ⟨n, h1, h2, h3⟩ := ih c rfl
      exact ⟨n, h1, by omega, h3⟩
    · have e : cntE q (a + d) = cntE q a := by have := cntE_mono q (show a ≤ a + d by omega); omega
      have e2 : cntE q b = cntE q (a + d) + (if q (a + d) = true then 1 else 0) := by rw [hd]; rfl
      by_cases c2 : q (a + d) = true
      · exact ⟨a + d, by omega, by omega, c2, cntE_none (by omega) e.symm, e⟩
      · rw [if_neg c2] at e2; omega
def sumE (f : Nat → Nat) : Nat → Nat
  | 0 => 0
  | k + 1 => sumE f k + f k
theorem sumE_c {f f' : Nat → Nat} : ∀ k, (∀ j, j < k → f j = f' j) → sumE f k = sumE f' k := by
  intro k
  induction k with
  | zero => intro _; rfl
  | succ k ih => intro h; show sumE f k + f k = _; rw [ih (fun j hj => h j (by omega)), h k (by omega)]; rfl
theorem sumE_add (f g : Nat → Nat) : ∀ k, sumE (fun j => f j + g j) k = sumE f k + sumE g k := by
  intro k
  induction k with
  | zero => rfl
  | succ k ih => show sumE _ k + (f k + g k) = sumE f k + f k + (sumE g k + g k); rw [ih]; omega
theorem sumE_1 (x : Nat) : ∀ k, sumE (fun j => if x = j then 1 else 0) k = if x < k then 1 else 0 := by
  intro k
  induction k with
  | zero => rfl
  | succ k ih =>
    show sumE _ k + (if x = k then 1 else 0) = _
    rw [ih]
    by_cases c : x = k
    · subst c; rw [if_neg (by omega), if_pos rfl, if_pos (by omega)]
    · by_cases c2 : x < k
      · rw [if_pos c2, if_neg c, if_pos (by omega)]
      · rw [if_neg c2, if_neg c, if_neg (by omega)]
theorem sumE_0 : ∀ k, sumE (fun _ => 0) k = 0 := by
  intro k
  induction k with
  | zero => rfl
  | succ k ih => show sumE _ k + 0 = 0; rw [ih]
/-- counts by key come to the whole count -/
theorem sum_keys (s B : Nat) (o : Option Nat) : ∀ N, N ≤ 4096 → sumE (fun key => FN s B key o N) 98 = cntE (fun n => St B n && decide (Dn s B n = o)) N := by
  intro N
  induction N with
  | zero => intro _; exact sumE_0 98
  | succ N ih =>
    intro hN
    show sumE (fun key => FN s B key o N + (if Fq s B key o N = true then 1 else 0)) 98 = cntE _ N + (if (St B N && decide (Dn s B N = o)) = true then 1 else 0)
    rw [sumE_add, ih (by omega)]
    congr 1
    by_cases c : (St B N && decide (Dn s B N = o)) = true
    · rw [if_pos c]
      rw [Bool.and_eq_true] at c
      have hk := kyN_lt (show N < 4096 by omega) (St_120 c.1)
      rw [sumE_c (f' := fun j => if kyN N = j then 1 else 0) 98 (fun j _ => by
        unfold Fq
        rw [c.1, c.2, Bool.true_and, Bool.and_true]
        by_cases c3 : kyN N = j
        · rw [decide_eq_true c3, if_pos rfl, if_pos c3]
        · rw [decide_eq_false c3, if_neg (by decide), if_neg c3]), sumE_1, if_pos hk]
    · rw [if_neg c]
      rw [sumE_c (f' := fun _ => 0) 98 (fun j _ => by
        apply if_neg
        intro h
        apply c
        unfold Fq at h
        rw [Bool.and_eq_true, Bool.and_eq_true] at h
        rw [Bool.and_eq_true]
        exact ⟨h.1, h.2.2⟩), sumE_0]
/-! ===== exceptions ===== -/
def exc (s B n : Nat) : Bool := St B n && !decide (dI (Dn s B n) = tld s B (kyN n))
/-- runs, the run that goes on, the longest one -/
def rn (st ex : Nat → Bool) : Nat → Nat × Nat × Nat
  | 0 => (0, 0, 0)
  | k + 1 => if st k then (if ex k then ((if (rn st ex k).2.1 = 0 then (rn st ex k).1 + 1 else (rn st ex k).1), (rn st ex k).2.1 + 1, max (rn st ex k).2.2 ((rn st ex k).2.1 + 1)) else ((rn st ex k).1, 0, (rn st ex k).2.2)) else rn st ex k
theorem rn_skip {st ex : Nat → Bool} {a : Nat} : ∀ d, (∀ j, a ≤ j → j < a + d → st j = false) → rn st ex (a + d) = rn st ex a := by
  intro d
  induction d with
  | zero => intro _; rfl
  | succ d ih =>
    intro h
    show rn st ex (a + d + 1) = _
    rw [rn, h (a + d) (by omega) (by omega)]
    exact ih (fun j h1 h2 => h j h1 (by omega))
theorem rn_le (st ex : Nat → Bool) : ∀ k, (rn st ex k).1 ≤ k ∧ (rn st ex k).2.1 ≤ k ∧ (rn st ex k).2.2 ≤ k := by
  intro k
  induction k with
  | zero => exact ⟨Nat.le_refl _, Nat.le_refl _, Nat.le_refl _⟩
  | succ k ih =>
    rw [rn]
    generalize rn st ex k = q at *
    obtain ⟨a, b, c⟩ := q
    dsimp only at ih ⊢
    by_cases h1 : st k = true
    · rw [if_pos h1]
      by_cases h2 : ex k = true
      · rw [if_pos h2]
        dsimp only
        refine ⟨?_, by omega, by omega⟩
        by_cases h3 : b = 0
        · rw [if_pos h3]; omega
        · rw [if_neg h3]; omega
      · rw [if_neg h2]; dsimp only; omega
    · rw [if_neg h1]; dsimp only; omega
/-- the first exception of a block of 64 -/
def fbl (ex : Nat → Bool) (n : Nat) : Bool := ex n && !(List.range (n % 64)).any (fun j => ex (64 * (n / 64) + j))
def blk (ex : Nat → Bool) (b : Nat) : Bool := (List.range 64).any (fun j => ex (64 * b + j))
theorem fbl_part (ex : Nat → Bool) (b : Nat) : ∀ r, r ≤ 64 → cntE (fbl ex) (64 * b + r) = cntE (fbl ex) (64 * b) + (if (List.range r).any (fun j => ex (64 * b + j)) then 1 else 0) := by
  intro r
  induction r with
  | zero => intro _; rfl
  | succ r ih =>
    intro hr
    show cntE (fbl ex) (64 * b + r) + (if fbl ex (64 * b + r) = true then 1 else 0) = _
    rw [ih (by omega), List.range_succ, List.any_append]
    unfold fbl
    rw [show (64 * b + r) % 64 = r by omega, show (64 * b + r) / 64 = b by omega]
    simp only [List.any_cons, List.any_nil, Bool.or_false]
    cases ex (64 * b + r) <;> cases ((List.range r).any fun j => ex (64 * b + j)) <;> rfl
theorem fbl_blk (ex : Nat → Bool) : ∀ b, cntE (fbl ex) (64 * b) = cntE (blk ex) b := by
  intro b
  induction b with
  | zero => rfl
  | succ b ih =>
    have := fbl_part ex b 64 (Nat.le_refl _)
    rw [show 64 * (b + 1) = 64 * b + 64 by omega, this, ih]
    rfl
/-! ===== the greatest distance, and the first number with it ===== -/
def grt (q : Nat → Option Nat) : Nat → Option (Nat × Nat)
  | 0 => none
  | k + 1 => match q k with
    | none => grt q k
    | some d => match grt q k with
      | none => some (d, k)
      | some (d0, n0) => if d0 < d then some (d, k) else some (d0, n0)
theorem grt_spec (q : Nat → Option Nat) : ∀ k, (grt q k = none → ∀ n, n < k → q n = none) ∧ ∀ d n0, grt q k = some (d, n0) → n0 < k ∧ q n0 = some d ∧ (∀ n, n < n0 → q n ≠ some d) ∧ ∀ n x, n < k → q n = some x → x ≤ d := by
  intro k
  induction k with
  | zero => exact ⟨fun _ n h => absurd h (by omega), fun d n0 h => by cases h⟩
  | succ k ih =>
    rw [grt]
    cases e : q k with
    | none =>
      dsimp only
      refine ⟨fun h n hn => ?_, fun d n0 h => ?_⟩
      · by_cases c : n = k
        · rw [c]; exact e
        · exact ih.1 h n (by omega)
      · obtain ⟨h1, h2, h3, h4⟩ := ih.2 d n0 h
        refine ⟨by omega, h2, h3, fun n x hn hx => ?_⟩
        by_cases c : n = k
        · rw [c, e] at hx; cases hx
        · exact h4 n x (by omega) hx
    | some d1 =>
      dsimp only
      cases e2 : grt q k with
      | none =>
        dsimp only
        refine ⟨fun h => (by cases h), fun d n0 h => ?_⟩
        cases h
        have h1 := ih.1 e2
        refine ⟨by omega, e, fun n hn h2 => (by rw [h1 n hn] at h2; cases h2), fun n x hn hx => ?_⟩
        by_cases c : n = k
        · rw [c, e] at hx; cases hx; omega
        · rw [h1 n (by omega)] at hx; cases hx
      | some p =>
        obtain ⟨d0, n1⟩ := p
        dsimp only
        obtain ⟨h1, h2, h3, h4⟩ := ih.2 d0 n1 e2
        by_cases c : d0 < d1
        · rw [if_pos c]
          refine ⟨fun h => (by cases h), fun d n0 h => ?_⟩
          cases h
          refine ⟨by omega, e, fun n hn h5 => ?_, fun n x hn hx => ?_⟩
          · have := h4 n _ hn h5; omega
          · by_cases c2 : n = k
            · rw [c2, e] at hx; cases hx; omega
            · have := h4 n x (by omega) hx; omega
        · rw [if_neg c]
          refine ⟨fun h => (by cases h), fun d n0 h => ?_⟩
          cases h
          refine ⟨by omega, h2, h3, fun n x hn hx => ?_⟩
          by_cases c2 : n = k
          · rw [c2, e] at hx; cases hx; omega
          · exact h4 n x (by omega) hx
