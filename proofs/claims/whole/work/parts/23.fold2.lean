/-! ===== least, number, over a list ===== -/
def minE (e : Nat → Nat) (x : Nat) : Nat → Nat
  | 0 => x
  | k + 1 => min (minE e x k) (e k)
def cntE (q : Nat → Bool) : Nat → Nat
  | 0 => 0
  | k + 1 => cntE q k + (if q k then 1 else 0)
theorem minE_le (e : Nat → Nat) (x : Nat) : ∀ k, minE e x k ≤ x := by
  intro k
  induction k with
  | zero => exact Nat.le_refl _
  | succ k ih => exact Nat.le_trans (Nat.min_le_left _ _) ih
theorem minE_eq (e : Nat → Nat) (x : Nat) : ∀ k, minE e x k = x ↔ ∀ j, j < k → x ≤ e j := by
  intro k
  induction k with
  | zero => exact ⟨fun _ j h => absurd h (by omega), fun _ => rfl⟩
  | succ k ih =>
    have h1 := minE_le e x k
    show min (minE e x k) (e k) = x ↔ _
    constructor
    · intro h j hj
      have h2 : minE e x k = x := by omega
      rcases Nat.lt_or_ge j k with q | q
      · exact ih.mp h2 j q
      · have : j = k := by omega
        subst this; omega
    · intro h
      have h2 := ih.mpr (fun j hj => h j (by omega))
      have h3 := h k (by omega)
      omega
theorem minE_c {e e' : Nat → Nat} (x : Nat) : ∀ k, (∀ j, j < k → e j = e' j) → minE e x k = minE e' x k := by
  intro k
  induction k with
  | zero => intro _; rfl
  | succ k ih => intro h; show min _ _ = min _ _; rw [ih (fun j hj => h j (by omega)), h k (by omega)]
theorem minE_sh (e : Nat → Nat) (x : Nat) (h : e 0 = x) : ∀ k, minE e x (k + 1) = minE (fun j => e (j + 1)) x k := by
  intro k
  induction k with
  | zero => show min x (e 0) = x; rw [h, Nat.min_self]
  | succ k ih => show min (minE e x (k + 1)) (e (k + 1)) = min _ _; rw [ih]
theorem cntE_c {e e' : Nat → Bool} : ∀ k, (∀ j, j < k → e j = e' j) → cntE e k = cntE e' k := by
  intro k
  induction k with
  | zero => intro _; rfl
  | succ k ih => intro h; show cntE _ _ + _ = cntE _ _ + _; rw [ih (fun j hj => h j (by omega)), h k (by omega)]
theorem cntE_sh (e : Nat → Bool) (h : e 0 = true) : ∀ k, cntE e (k + 1) = 1 + cntE (fun j => e (j + 1)) k := by
  intro k
  induction k with
  | zero => show 0 + (if e 0 = true then 1 else 0) = 1; rw [h]; rfl
  | succ k ih =>
    show cntE e (k + 1) + (if e (k + 1) = true then 1 else 0) = 1 + (cntE (fun j => e (j + 1)) k + (if e (k + 1) = true then 1 else 0))
    rw [ih]; omega
theorem cntE_le (e : Nat → Bool) : ∀ k, cntE e k ≤ k := by
  intro k
  induction k with
  | zero => exact Nat.le_refl _
  | succ k ih =>
    show cntE e k + (if e k = true then 1 else 0) ≤ _
    by_cases c : e k = true
    · rw [if_pos c]; omega
    · rw [if_neg c]; omega
/-! ===== the images that keep the blocked places ===== -/
def Wl (B i : Nat) : List Nat := (List.range i).filter (ksym B)
def Kl (B i : Nat) : List Nat := (List.range i).filter (fun t => decide (t ≠ 0) && ksym B t)
theorem filt_s (p : Nat → Bool) (i : Nat) : (List.range (i + 1)).filter p = (List.range i).filter p ++ (if p i then [i] else []) := by
  rw [List.range_succ, List.filter_append]
  congr 1
  by_cases c : p i = true
  · rw [if_pos c, List.filter_cons_of_pos c]; rfl
  · rw [if_neg c, List.filter_cons_of_neg c]; rfl
theorem filt_len (p : Nat → Bool) (i : Nat) : ((List.range i).filter p).length ≤ i := by
  have := List.length_filter_le p (List.range i)
  rwa [List.length_range] at this
theorem getD_e {l : List Nat} {j : Nat} (h : j < l.length) : l.getD j 0 = l[j] := by rw [List.getD_eq_getElem?_getD, List.getElem?_eq_getElem h]; rfl
theorem getD_in {l : List Nat} {j : Nat} (h : j < l.length) : l.getD j 0 ∈ l := by
  rw [getD_e h]; exact List.getElem_mem h
theorem getD_l {l : List Nat} {x j : Nat} (h : j < l.length) : (l ++ [x]).getD j 0 = l.getD j 0 := by
  rw [getD_e h, getD_e (by rw [List.length_append]; omega), List.getElem_append_left h]
theorem getD_r {l : List Nat} {x : Nat} : (l ++ [x]).getD l.length 0 = x := by
  rw [getD_e (by rw [List.length_append]; show _ < _ + 1; omega), List.getElem_append_right (Nat.le_refl _)]; simp
theorem WK (B : Nat) : Wl B 8 = 0 :: Kl B 8 := by
  have e : List.range 8 = 0 :: [1, 2, 3, 4, 5, 6, 7] := rfl
  unfold Wl Kl
  rw [e, List.filter_cons_of_pos (ksym_0 B), List.filter_cons_of_neg (p := fun t => decide (t ≠ 0) && ksym B t) (a := 0) (by simp)]
  rfl
theorem W_in {B j : Nat} (h : j < (Wl B 8).length) : (Wl B 8).getD j 0 < 8 ∧ ksym B ((Wl B 8).getD j 0) = true := by
  have := List.mem_filter.mp (getD_in h)
  exact ⟨List.mem_range.mp this.1, this.2⟩
theorem K_in {B j : Nat} (h : j < (Kl B 8).length) : (Kl B 8).getD j 0 < 8 := by
  have := List.mem_filter.mp (getD_in h)
  exact List.mem_range.mp this.1
theorem WKlen (B : Nat) : (Wl B 8).length = (Kl B 8).length + 1 := by rw [WK]; rfl
theorem WKat (B j : Nat) : (Wl B 8).getD (j + 1) 0 = (Kl B 8).getD j 0 := by rw [WK]; rfl
theorem WK0 (B : Nat) : (Wl B 8).getD 0 0 = 0 := by rw [WK]; rfl
/-! ===== how many there are alike ===== -/
def mskL (w : Nat) : List Nat := (List.range 8).filter (fun t => w.testBit t)
def clo (w : Nat) : Bool := w.testBit 0 && bAll 8 fun t => !w.testBit t || bAll 8 fun u => !w.testBit u || w.testBit (cmp8 t u)
def cOK (w st : Nat) : Bool :=
  let l := mskL w
  let d := cntE (fun i => (List.range i).all fun j => !st.testBit (cmp8 (inv8 (l.getD j 0)) (l.getD i 0))) l.length
  let u := cntE (fun i => st.testBit (l.getD i 0)) l.length
  decide (l.length / u = d)
set_option maxRecDepth 100000 in
theorem clo_chk : bAll 256 (fun w => !clo w || sbL.contains w) = true := by decide +kernel
set_option maxRecDepth 100000 in
theorem cnt_chk : sbL.all (fun w => sbL.all (fun st => cOK w st)) = true := by decide +kernel
theorem mk8b : ∀ b0 b1 b2 b3 b4 b5 b6 b7 : Bool, (b0.toNat + 2 * b1.toNat + 4 * b2.toNat + 8 * b3.toNat + 16 * b4.toNat + 32 * b5.toNat + 64 * b6.toNat + 128 * b7.toNat < 256) ∧ ∀ t, t < 8 → (b0.toNat + 2 * b1.toNat + 4 * b2.toNat + 8 * b3.toNat + 16 * b4.toNat + 32 * b5.toNat + 64 * b6.toNat + 128 * b7.toNat).testBit t = [b0, b1, b2, b3, b4, b5, b6, b7].getD t false := by decide +kernel
theorem mk8 (p : Nat → Bool) : ∃ w, w < 256 ∧ ∀ t, t < 8 → w.testBit t = p t := by
  have h := mk8b (p 0) (p 1) (p 2) (p 3) (p 4) (p 5) (p 6) (p 7)
  refine ⟨_, h.1, fun t ht => ?_⟩
  rw [h.2 t ht]
  have : t = 0 ∨ t = 1 ∨ t = 2 ∨ t = 3 ∨ t = 4 ∨ t = 5 ∨ t = 6 ∨ t = 7 := by omega
  rcases this with e | e | e | e | e | e | e | e <;> subst e <;> rfl
theorem clo_of {w : Nat} {p : Nat → Bool} (h : ∀ t, t < 8 → w.testBit t = p t) (h0 : p 0 = true) (hc : ∀ t u, t < 8 → u < 8 → p t = true → p u = true → p (cmp8 t u) = true) : clo w = true := by
  unfold clo
  rw [h 0 (by omega), h0, Bool.true_and]
  unfold bAll
  rw [List.all_eq_true]
  intro t ht
  have ht := List.mem_range.mp ht
  rw [h t ht]
  cases e : p t
  · rfl
  · show ((false : Bool) || _) = true
    rw [Bool.false_or, List.all_eq_true]
    intro u hu
    have hu := List.mem_range.mp hu
    rw [h u hu]
    cases e2 : p u
    · rfl
    · rw [h _ (cmp_all ht hu).1, hc t u ht hu e e2]; rfl
/-- how many different numbers the images make -/
def dct (B n k : Nat) : Nat := cntE (fun i => (List.range i).all fun j => !decide (imN ((Wl B 8).getD j 0) n = imN ((Wl B 8).getD i 0) n)) k
def unm (B n : Nat) : Nat := cntE (fun i => decide (imN ((Wl B 8).getD i 0) n = n)) (Wl B 8).length
theorem alike_cnt (B : Nat) {n : Nat} (hn : n < 4096) (hp : n % 128 < 120) : (Wl B 8).length / unm B n = dct B n (Wl B 8).length := by
  obtain ⟨w, hw, hw2⟩ := mk8 (ksym B)
  obtain ⟨st, hs, hs2⟩ := mk8 (fun t => decide (imN t n = n))
  have c1 := clo_of hw2 (ksym_0 B) (fun t u ht hu a b => ksym_cmp ht hu a b)
  have c2 := clo_of hs2 (by rw [decide_eq_true_eq]; exact imN_0 hn hp) (fun t u ht hu a b => by
    rw [decide_eq_true_eq] at a b ⊢
    rw [← imN_cmp ht hu hn hp, b, a])
  have d1 : w ∈ sbL := by
    have := bAll_e clo_chk hw
    rw [c1] at this
    simpa using this
  have d2 : st ∈ sbL := by
    have := bAll_e clo_chk hs
    rw [c2] at this
    simpa using this
  have key := List.all_eq_true.mp (List.all_eq_true.mp cnt_chk w d1) st d2
  have el : mskL w = Wl B 8 := by
    unfold mskL Wl
    apply List.filter_congr
    intro t ht
    exact hw2 t (List.mem_range.mp ht)
  unfold cOK at key
  rw [decide_eq_true_eq, el] at key
  have e1 : cntE (fun i => (List.range i).all fun j => !st.testBit (cmp8 (inv8 ((Wl B 8).getD j 0)) ((Wl B 8).getD i 0))) (Wl B 8).length = dct B n (Wl B 8).length := by
    unfold dct
    apply cntE_c
    intro i hi
    rw [Bool.eq_iff_iff, List.all_eq_true, List.all_eq_true]
    have z : ∀ j, j ∈ List.range i → (st.testBit (cmp8 (inv8 ((Wl B 8).getD j 0)) ((Wl B 8).getD i 0)) = decide (imN ((Wl B 8).getD j 0) n = imN ((Wl B 8).getD i 0) n)) := by
      intro j hj
      have hj := List.mem_range.mp hj
      have k1 := W_in (B := B) (j := j) (by omega)
      have k2 := W_in hi
      have c := cmp_all k1.1 k2.1
      rw [hs2 _ (cmp_all c.2.1 k2.1).1, Bool.eq_iff_iff, decide_eq_true_eq, decide_eq_true_eq, imN_eq k1.1 k2.1 hn hp]
    constructor
    · intro h j hj
      rw [← z j hj]; exact h j hj
    · intro h j hj
      rw [z j hj]; exact h j hj
  have e2 : cntE (fun i => st.testBit ((Wl B 8).getD i 0)) (Wl B 8).length = unm B n := by
    unfold unm
    apply cntE_c
    intro i hi
    rw [hs2 _ (W_in hi).1]
  rw [e1, e2] at key
  exact key
