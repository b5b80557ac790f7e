/-! ===== what is known with r moves ===== -/
def psP (B f p : Nat) : Bool := bfr B f && (bfr B (loP p) && (bfr B (hiP p) && (decide (f ≠ loP p) && decide (f ≠ hiP p))))
theorem dm1 {f p : Nat} (hf : f < 16) (hp : p < 128) : (128 * f + p) % 128 = p ∧ (128 * f + p) / 128 % 16 = f ∧ 128 * f + p < 2048 := by omega
theorem dm2 {f p : Nat} (hf : f < 16) (hp : p < 128) : (2048 + 128 * f + p) % 128 = p ∧ (2048 + 128 * f + p) / 128 % 16 = f ∧ ¬ 2048 + 128 * f + p < 2048 ∧ 2048 + 128 * f + p < 4096 := by omega
theorem isPos_h {B f p : Nat} (hf : f < 16) (hp : p < 120) : isPos B (128 * f + p) = psP B f p := by
  obtain ⟨e1, e2, e3⟩ := dm1 hf (show p < 128 by omega)
  unfold isPos psP
  rw [e1, e2, decide_eq_true (show 128 * f + p < 4096 by omega), decide_eq_true hp]; simp
theorem isPos_f {B f p : Nat} (hf : f < 16) (hp : p < 120) : isPos B (2048 + 128 * f + p) = psP B f p := by
  obtain ⟨e1, e2, e3, e4⟩ := dm2 hf (show p < 128 by omega)
  unfold isPos psP
  rw [e1, e2, decide_eq_true e4, decide_eq_true hp]; simp
theorem Kn_h (s B r : Nat) {f p : Nat} (hf : f < 16) (hp : p < 120) : Kn s B (r + 1) (128 * f + p) = (psP B f p && ((decide (1 ≤ r) && hCatch s f p) || (hStep (Kn s B r) s B f (loP p) (hiP p) || (hStep (Kn s B r) s B f (hiP p) (loP p) || (s.testBit 2 && Kn s B r (2048 + 128 * f + p)))))) := by
  obtain ⟨e1, e2, e3⟩ := dm1 hf (show p < 128 by omega)
  rw [Kn, isPos_h hf hp, if_pos e3, e1, e2, show 128 * f + p + 2048 = 2048 + 128 * f + p by omega]
theorem Kn_f (s B r : Nat) {f p : Nat} (hf : f < 16) (hp : p < 120) : Kn s B (r + 1) (2048 + 128 * f + p) = (psP B f p && fEsc (Kn s B r) s B f p) := by
  obtain ⟨e1, e2, e3, e4⟩ := dm2 hf (show p < 128 by omega)
  rw [Kn, isPos_f hf hp, if_neg e3, e1, e2]
theorem Kn_pos {s B r n : Nat} (h : Kn s B r n = true) : isPos B n = true := by
  cases r with
  | zero => cases h
  | succ r => rw [Kn] at h; exact (Bool.and_eq_true _ _ ▸ h).1
theorem hStep_mono {q q' : Nat → Bool} (h : ∀ n, q n = true → q' n = true) {s B f m o : Nat} (hs : hStep q s B f m o = true) : hStep q' s B f m o = true := by
  unfold hStep at hs ⊢
  rw [List.any_eq_true] at hs ⊢
  obtain ⟨t, h1, h2⟩ := hs
  refine ⟨t, h1, ?_⟩
  simp only [Bool.and_eq_true] at h2 ⊢
  exact ⟨h2.1, h2.2.1, h2.2.2.1, h2.2.2.2.1, h _ h2.2.2.2.2⟩
theorem fEsc_mono {q q' : Nat → Bool} (h : ∀ n, q n = true → q' n = true) {s B f p : Nat} (hs : fEsc q s B f p = true) : fEsc q' s B f p = true := by
  unfold fEsc at hs ⊢
  rw [List.all_eq_true] at hs ⊢
  intro t ht
  have := hs t ht
  rw [Bool.or_eq_true] at this ⊢
  exact this.imp id (h _)
theorem Kn_mono1 (s B : Nat) : ∀ (r n : Nat), Kn s B r n = true → Kn s B (r + 1) n = true := by
  intro r
  induction r with
  | zero => intro n h; cases h
  | succ r ih =>
    intro n h
    rw [Kn] at h ⊢
    rw [Bool.and_eq_true] at h ⊢
    refine ⟨h.1, ?_⟩
    have h2 := h.2
    by_cases c : n < 2048
    · rw [if_pos c] at h2 ⊢
      simp only [Bool.or_eq_true, Bool.and_eq_true, decide_eq_true_eq] at h2 ⊢
      rcases h2 with h2 | h2 | h2 | h2
      · exact Or.inl ⟨by omega, h2.2⟩
      · exact Or.inr (Or.inl (hStep_mono ih h2))
      · exact Or.inr (Or.inr (Or.inl (hStep_mono ih h2)))
      · exact Or.inr (Or.inr (Or.inr ⟨h2.1, ih _ h2.2⟩))
    · rw [if_neg c] at h2 ⊢
      exact fEsc_mono ih h2
theorem Kn_mono (s B n : Nat) {r r' : Nat} (h : r ≤ r') (hk : Kn s B r n = true) : Kn s B r' n = true := by
  induction h with
  | refl => exact hk
  | step _ ih => exact Kn_mono1 s B _ n ih
/-- hunters' positions come to be known at odd moves, the fox's at even ones -/
theorem Kn_par (s B : Nat) : ∀ j : Nat, (∀ f p, f < 16 → p < 120 → Kn s B (2 * j + 1) (128 * f + p) = Kn s B (2 * j) (128 * f + p)) ∧ (∀ f p, f < 16 → p < 120 → Kn s B (2 * j + 2) (2048 + 128 * f + p) = Kn s B (2 * j + 1) (2048 + 128 * f + p)) := by
  have cf : ∀ (q q' : Nat → Bool) (f p : Nat), p < 120 → (∀ f p, f < 16 → p < 120 → q (128 * f + p) = q' (128 * f + p)) → fEsc q s B f p = fEsc q' s B f p := by
    intro q q' f p hp h
    unfold fEsc
    rw [Bool.eq_iff_iff, List.all_eq_true, List.all_eq_true]
    constructor
    · intro g t ht
      rw [← h t p (List.mem_range.mp ht) hp]; exact g t ht
    · intro g t ht
      rw [h t p (List.mem_range.mp ht) hp]; exact g t ht
  have ch : ∀ (q q' : Nat → Bool) (f m o : Nat), f < 16 → o < 16 → (∀ f p, f < 16 → p < 120 → q (2048 + 128 * f + p) = q' (2048 + 128 * f + p)) → hStep q s B f m o = hStep q' s B f m o := by
    intro q q' f m o hf ho h
    unfold hStep
    have key : ∀ t, t < 16 → t ≠ o → q (2048 + 128 * f + prN t o) = q' (2048 + 128 * f + prN t o) := fun t ht e => h f _ hf (pr_lohi ht ho e).1
    rw [Bool.eq_iff_iff, List.any_eq_true, List.any_eq_true]
    constructor <;> rintro ⟨t, h1, h2⟩ <;> refine ⟨t, h1, ?_⟩ <;> simp only [Bool.and_eq_true, decide_eq_true_eq] at h2 ⊢ <;> refine ⟨h2.1, h2.2.1, h2.2.2.1, h2.2.2.2.1, ?_⟩
    · rw [← key t (List.mem_range.mp h1) h2.2.1]; exact h2.2.2.2.2
    · rw [key t (List.mem_range.mp h1) h2.2.1]; exact h2.2.2.2.2
  intro j
  induction j with
  | zero =>
    have z : ∀ f p, f < 16 → p < 120 → Kn s B (2 * 0 + 1) (128 * f + p) = Kn s B (2 * 0) (128 * f + p) := by
      intro f p hf hp
      rw [Kn_h s B _ hf hp]
      have q0 : ∀ a b, hStep (Kn s B (2 * 0)) s B f a b = false := by
        intro a b
        unfold hStep
        rw [List.any_eq_false]
        intro t _
        simp [Kn]
      rw [q0, q0]
      simp [Kn]
    refine ⟨z, fun f p hf hp => ?_⟩
    rw [Kn_f s B _ hf hp, Kn_f s B _ hf hp, cf _ _ f p hp z]
  | succ j ih =>
    have z : ∀ f p, f < 16 → p < 120 → Kn s B (2 * (j + 1) + 1) (128 * f + p) = Kn s B (2 * (j + 1)) (128 * f + p) := by
      intro f p hf hp
      have hl := lohi hp
      rw [show 2 * (j + 1) = (2 * j + 1) + 1 by omega, Kn_h s B _ hf hp, Kn_h s B _ hf hp, ch _ _ f _ _ hf hl.2.1 ih.2, ch _ _ f _ _ hf (by omega) ih.2, ih.2 f p hf hp]
      rw [decide_eq_true (show 1 ≤ 2 * j + 1 + 1 by omega), decide_eq_true (show 1 ≤ 2 * j + 1 by omega)]
    refine ⟨z, fun f p hf hp => ?_⟩
    rw [show 2 * (j + 1) + 2 = (2 * (j + 1) + 1) + 1 by omega, Kn_f s B _ hf hp, Kn_f s B _ hf hp, cf _ _ f p hp z]
theorem fstK_le {q : Nat → Bool} : ∀ {r x : Nat}, fstK q r = some x → x < r ∧ q (x + 1) = true := by
  intro r
  induction r with
  | zero => intro x h; cases h
  | succ r ih =>
    intro x h
    unfold fstK at h
    cases e : fstK q r with
    | some y => rw [e] at h; cases h; have := ih e; exact ⟨by omega, this.2⟩
    | none =>
      rw [e] at h
      by_cases c : q (r + 1) = true
      · simp [c] at h; subst h; exact ⟨by omega, c⟩
      · simp [c] at h
theorem fstK_none {q : Nat → Bool} (hm : ∀ r, q r = true → q (r + 1) = true) (h0 : q 0 = false) : ∀ r, fstK q r = none ↔ q r = false := by
  intro r
  induction r with
  | zero => simp [fstK, h0]
  | succ r ih =>
    unfold fstK
    cases e : fstK q r with
    | some x =>
      have := fstK_le e
      have h2 : q r = true := by
        rw [← Bool.not_eq_false, ← ih, e]; simp
      simp [hm r h2]
    | none =>
      simp
theorem fstK_new {q : Nat → Bool} {r : Nat} (h : fstK q r = none) : fstK q (r + 1) = if q (r + 1) then some r else none := by rw [fstK, h]
theorem fstK_old {q : Nat → Bool} {r x : Nat} (h : fstK q r = some x) : fstK q (r + 1) = some x := by rw [fstK, h]
