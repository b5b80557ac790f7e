/-! ===== the sets of bits tell what is known ===== -/
def Vd (V B : Nat) : Prop := ∀ a b f, a < 16 → b < 16 → f < 16 → V.testBit (256 * a + 16 * b + f) = (decide (a ≠ b) && psP B f (prN a b))
def RH (s B j H : Nat) : Prop := ∀ a b f, a < 16 → b < 16 → f < 16 → H.testBit (256 * a + 16 * b + f) = (decide (a ≠ b) && Kn s B (2 * j) (128 * f + prN a b))
def RF (s B j F : Nat) : Prop := ∀ a b f, a < 16 → b < 16 → f < 16 → F.testBit (256 * a + 16 * b + f) = (decide (a ≠ b) && Kn s B (2 * j + 1) (2048 + 128 * f + prN a b))
theorem Kn_psh {s B r f p : Nat} (hf : f < 16) (hp : p < 120) (h : Kn s B r (128 * f + p) = true) : psP B f p = true := by
  rw [← isPos_h hf hp]; exact Kn_pos h
theorem Kn_psf {s B r f p : Nat} (hf : f < 16) (hp : p < 120) (h : Kn s B r (2048 + 128 * f + p) = true) : psP B f p = true := by
  rw [← isPos_f hf hp]; exact Kn_pos h
theorem bfs_ok {s B j V H : Nat} (hV : Vd V B) (hH : RH s B j H) : RF s B j (bfs (s.testBit 0) V H) := by
  intro a b f ha hb hf
  unfold bfs
  rw [tb_xor, tb_land, hV a b f ha hb hf]
  by_cases hab : a = b
  · rw [decide_eq_false (show ¬ a ≠ b from fun z => z hab)]; simp
  rw [decide_eq_true (show a ≠ b from hab), Bool.true_and, Bool.true_and]
  obtain ⟨p1, p2, p3⟩ := pr_lohi ha hb hab
  rw [Kn_f s B (2 * j) hf p1]
  cases ep : psP B f (prN a b)
  · simp
  rw [Bool.true_and, Bool.true_and, Bool.true_xor]
  have key : (mvF (s.testBit 0) (Nat.xor V H)).testBit (256 * a + 16 * b + f) = true ↔ ¬ fEsc (Kn s B (2 * j)) s B f (prN a b) = true := by
    rw [mvF_iff _ _ ha hb hf, fEsc_iff]
    have bits : ∀ t, t < 16 → ((Nat.xor V H).testBit (256 * a + 16 * b + t) = true ↔ psP B t (prN a b) = true ∧ ¬ Kn s B (2 * j) (128 * t + prN a b) = true) := by
      intro t ht
      rw [tb_xor, hV a b t ha hb ht, hH a b t ha hb ht, decide_eq_true (show a ≠ b from hab), Bool.true_and, Bool.true_and]
      cases e1 : psP B t (prN a b) <;> cases e2 : Kn s B (2 * j) (128 * t + prN a b)
      · simp
      · rw [Kn_psh ht p1 e2] at e1; cases e1
      · simp
      · simp
    have mv : ∀ t, t < 16 → (fMv s B f (prN a b) t = true ↔ stp (s.testBit 0) f t = true ∧ psP B t (prN a b) = true) := by
      intro t ht
      unfold psP at ep ⊢
      unfold fMv
      simp only [Bool.and_eq_true] at ep ⊢
      constructor
      · rintro ⟨h1, h2, h3, h4⟩
        exact ⟨h4, h1, ep.2.1, ep.2.2.1, h2, h3⟩
      · rintro ⟨h4, h1, _, _, h2, h3⟩
        exact ⟨h1, h2, h3, h4⟩
    constructor
    · rintro ⟨t, ht, h1, h2⟩ h
      obtain ⟨h3, h4⟩ := (bits t ht).mp h2
      exact h4 (h t ht ((mv t ht).mpr ⟨h1, h3⟩))
    · intro h
      rw [Classical.not_forall] at h
      obtain ⟨t, h⟩ := h
      rw [Classical.not_imp, Classical.not_imp] at h
      obtain ⟨ht, h1, h2⟩ := h
      obtain ⟨h3, h4⟩ := (mv t ht).mp h1
      exact ⟨t, ht, h3, (bits t ht).mpr ⟨h4, h2⟩⟩
  cases e1 : (mvF (s.testBit 0) (Nat.xor V H)).testBit (256 * a + 16 * b + f)
  · cases e2 : fEsc (Kn s B (2 * j)) s B f (prN a b)
    · rw [e1, e2] at key
      exact absurd (key.mpr (by decide)) (by decide)
    · rfl
  · have := key.mp e1
    cases e2 : fEsc (Kn s B (2 * j)) s B f (prN a b)
    · rfl
    · exact absurd e2 this
theorem bhs_ok {s B j V F : Nat} (hV : Vd V B) (hF : RF s B j F) : RH s B (j + 1) (bhs (s.testBit 1) (s.testBit 2) V F) := by
  intro a b f ha hb hf
  unfold bhs
  rw [tb_land, hV a b f ha hb hf]
  by_cases hab : a = b
  · rw [decide_eq_false (show ¬ a ≠ b from fun z => z hab)]; simp
  rw [decide_eq_true (show a ≠ b from hab), Bool.true_and, Bool.true_and]
  obtain ⟨p1, p2, p3⟩ := pr_lohi ha hb hab
  rw [show 2 * (j + 1) = 2 * j + 1 + 1 by omega]
  cases ep : psP B f (prN a b)
  · rw [Kn_h s B _ hf p1, ep]; simp
  rw [Bool.true_and, Bool.eq_iff_iff, Kn_h s B _ hf p1, ep, Bool.true_and, tb_lor, tb_lor, tb_lor]
  have hC : (cond (s.testBit 1) kC1 kC0).testBit (256 * a + 16 * b + f) = (stp (s.testBit 1) a f || stp (s.testBit 1) b f) := by
    cases s.testBit 1
    · exact mkP_e kC0_c ha hb hf
    · exact mkP_e kC1_c ha hb hf
  have hP : (cond (s.testBit 2) F 0).testBit (256 * a + 16 * b + f) = (s.testBit 2 && Kn s B (2 * j + 1) (2048 + 128 * f + prN a b)) := by
    cases s.testBit 2
    · show (0 : Nat).testBit _ = _; simp
    · show F.testBit _ = _
      rw [hF a b f ha hb hf, decide_eq_true (show a ≠ b from hab)]
  have one : ∀ x y, x < 16 → y < 16 → x ≠ y → bfr B y = true → ∀ e : Nat → Bool, (∀ t, t < 16 → e t = (decide (t ≠ y) && Kn s B (2 * j + 1) (2048 + 128 * f + prN t y))) → ((∃ t, t < 16 ∧ stp (s.testBit 1) x t = true ∧ e t = true) ↔ hStep (Kn s B (2 * j + 1)) s B f x y = true) := by
    intro x y hx hy hxy hfy e he
    rw [hStep_iff]
    constructor
    · rintro ⟨t, ht, h1, h2⟩
      rw [he t ht, Bool.and_eq_true, decide_eq_true_eq] at h2
      obtain ⟨h3, h4⟩ := h2
      obtain ⟨q1, q2, q3⟩ := pr_lohi ht hy h3
      have hps := Kn_psf hf q1 h4
      unfold psP at hps
      rw [q2, q3] at hps
      simp only [Bool.and_eq_true, decide_eq_true_eq] at hps
      have ft : bfr B t = true := by
        rcases Nat.le_total t y with z | z
        · rw [Nat.min_eq_left z] at hps; exact hps.2.1
        · rw [Nat.max_eq_left z] at hps; exact hps.2.2.1
      have nf : t ≠ f := by
        intro z
        subst z
        rcases Nat.le_total t y with z | z
        · rw [Nat.min_eq_left z] at hps; exact hps.2.2.2.1 rfl
        · rw [Nat.max_eq_left z] at hps; exact hps.2.2.2.2 rfl
      refine ⟨t, ht, ?_, h4⟩
      unfold hMv
      simp only [Bool.and_eq_true, decide_eq_true_eq]
      exact ⟨ft, h3, nf, h1⟩
    · rintro ⟨t, ht, h1, h2⟩
      unfold hMv at h1
      simp only [Bool.and_eq_true, decide_eq_true_eq] at h1
      exact ⟨t, ht, h1.2.2.2, by rw [he t ht, decide_eq_true h1.2.1, h2]; rfl⟩
  have hps := ep
  unfold psP at hps
  rw [p2, p3] at hps
  simp only [Bool.and_eq_true, decide_eq_true_eq] at hps
  have fab : bfr B a = true ∧ bfr B b = true := by
    rcases Nat.le_total a b with z | z
    · rw [Nat.min_eq_left z, Nat.max_eq_right z] at hps; exact ⟨hps.2.1, hps.2.2.1⟩
    · rw [Nat.min_eq_right z, Nat.max_eq_left z] at hps; exact ⟨hps.2.2.1, hps.2.1⟩
  have mA : (mvA (s.testBit 1) F).testBit (256 * a + 16 * b + f) = true ↔ hStep (Kn s B (2 * j + 1)) s B f a b = true := by
    rw [mvA_iff _ _ ha hb hf]
    exact one a b ha hb hab fab.2 (fun t => F.testBit (256 * t + 16 * b + f)) (fun t ht => hF t b f ht hb hf)
  have mB : (mvB (s.testBit 1) F).testBit (256 * a + 16 * b + f) = true ↔ hStep (Kn s B (2 * j + 1)) s B f b a = true := by
    rw [mvB_iff _ _ ha hb hf]
    exact one b a hb ha (fun z => hab z.symm) fab.1 (fun t => F.testBit (256 * a + 16 * t + f)) (fun t ht => by
      rw [hF a t f ha ht hf, prN_comm a t]
      by_cases z : t = a
      · rw [z]
      · rw [decide_eq_true (show a ≠ t from fun q => z q.symm), decide_eq_true (show t ≠ a from z)])
  rw [hC, hP]
  simp only [Bool.or_eq_true, mA, mB, decide_eq_true (show 1 ≤ 2 * j + 1 by omega), Bool.true_and]
  unfold hCatch
  rw [p2, p3]
  simp only [Bool.or_eq_true]
  rcases Nat.le_total a b with z | z
  · rw [Nat.min_eq_left z, Nat.max_eq_right z]
    constructor
    · rintro ((h | h) | (h | h))
      · exact Or.inl h
      · exact Or.inr (Or.inr (Or.inr h))
      · exact Or.inr (Or.inl h)
      · exact Or.inr (Or.inr (Or.inl h))
    · rintro (h | h | h | h)
      · exact Or.inl (Or.inl h)
      · exact Or.inr (Or.inl h)
      · exact Or.inr (Or.inr h)
      · exact Or.inl (Or.inr h)
  · rw [Nat.min_eq_right z, Nat.max_eq_left z]
    constructor
    · rintro ((h | h) | (h | h))
      · exact Or.inl h.symm
      · exact Or.inr (Or.inr (Or.inr h))
      · exact Or.inr (Or.inr (Or.inl h))
      · exact Or.inr (Or.inl h)
    · rintro (h | h | h | h)
      · exact Or.inl (Or.inl h.symm)
      · exact Or.inr (Or.inr h)
      · exact Or.inr (Or.inl h)
      · exact Or.inl (Or.inr h)
theorem Bd_of {s B j : Nat} (hj : j ≤ 14) (h : ∀ f p, f < 16 → p < 120 → Kn s B (2 * j + 2) (128 * f + p) = Kn s B (2 * j) (128 * f + p)) : Bd s B := by
  have par := Kn_par s B j
  have all : ∀ n, n < 4096 → Kn s B (2 * j + 1 + 1) n = Kn s B (2 * j + 1) n := by
    intro n hn
    by_cases hp : n % 128 < 120
    · by_cases c : n < 2048
      · have e : n = 128 * (n / 128) + n % 128 := by omega
        rw [e, show 2 * j + 1 + 1 = 2 * j + 2 by omega, h _ _ (by omega) hp, par.1 _ _ (by omega) hp]
      · have e : n = 2048 + 128 * ((n - 2048) / 128) + n % 128 := by omega
        rw [e]
        exact par.2 _ _ (by omega) hp
    · have np : isPos B n = false := by
        unfold isPos
        rw [decide_eq_false hp]; simp
      rw [Kn_nopos np, Kn_nopos np]
  have st := Kn_stay (show 1 ≤ 2 * j + 1 by omega) all
  intro n _
  rw [st 31 (by omega), st 30 (by omega)]
theorem bgo_ok {s B V : Nat} (hV : Vd V B) : ∀ n j H, j + n ≤ 15 → RH s B j H → bgo (s.testBit 0) (s.testBit 1) (s.testBit 2) V n H = true → Bd s B := by
  intro n
  induction n with
  | zero => intro j H _ _ h; cases h
  | succ n ih =>
    intro j H hj hH h
    have h2 := bhs_ok hV (bfs_ok hV hH)
    rw [bgo] at h
    cases e : Nat.beq (bhs (s.testBit 1) (s.testBit 2) V (bfs (s.testBit 0) V H)) H
    · rw [e] at h
      exact ih (j + 1) _ (by omega) h2 h
    · have eq := Nat.eq_of_beq_eq_true e
      refine Bd_of (j := j) (by omega) (fun f p hf hp => ?_)
      obtain ⟨l1, l2, l3⟩ := lohi hp
      have a1 := h2 (loP p) (hiP p) f (by omega) l2 hf
      have a2 := hH (loP p) (hiP p) f (by omega) l2 hf
      rw [eq, a2, l3, decide_eq_true (show loP p ≠ hiP p by omega), Bool.true_and, Bool.true_and] at a1
      exact a1.symm
theorem bor_bit {B k i : Nat} : (B ||| 2 ^ k).testBit i = (B.testBit i || decide (i = k)) := by
  rw [Nat.testBit_or, Nat.testBit_two_pow]
  by_cases c : k = i
  · subst c; simp
  · simp [c, show ¬ i = k from fun z => c z.symm]
theorem brm_ok {V B k : Nat} (hk : k < 16) (hV : Vd V B) : Vd (brm k V) (B ||| 2 ^ k) := by
  intro a b f ha hb hf
  unfold brm
  rw [tb_xor, tb_land, hV a b f ha hb hf, mkP_e (bAll_e kP_c hk) ha hb hf]
  by_cases hab : a = b
  · rw [decide_eq_false (show ¬ a ≠ b from fun z => z hab)]; simp
  rw [decide_eq_true (show a ≠ b from hab), Bool.true_and, Bool.true_and]
  obtain ⟨p1, p2, p3⟩ := pr_lohi ha hb hab
  have bf : ∀ x, bfr (B ||| 2 ^ k) x = (bfr B x && !decide (x = k)) := fun x => by
    unfold bfr
    rw [bor_bit]
    cases B.testBit x <;> simp
  unfold psP
  rw [p2, p3, bf, bf, bf]
  rcases Nat.le_total a b with z | z
  · rw [Nat.min_eq_left z, Nat.max_eq_right z]
    cases bfr B f <;> cases bfr B a <;> cases bfr B b <;> cases decide (f = k) <;> cases decide (a = k) <;> cases decide (b = k) <;> cases decide (f ≠ a) <;> cases decide (f ≠ b) <;> rfl
  · rw [Nat.min_eq_right z, Nat.max_eq_left z]
    cases bfr B f <;> cases bfr B a <;> cases bfr B b <;> cases decide (f = k) <;> cases decide (a = k) <;> cases decide (b = k) <;> cases decide (f ≠ a) <;> cases decide (f ≠ b) <;> rfl
theorem psP_c {B B' f p : Nat} (h : ∀ i, i < 16 → B'.testBit i = B.testBit i) (hf : f < 16) (hp : p < 120) : psP B' f p = psP B f p := by
  obtain ⟨l1, l2, _⟩ := lohi hp
  unfold psP bfr
  rw [h f hf, h (loP p) (by omega), h (hiP p) l2]
theorem bdf_ok {s : Nat} : ∀ k j V B, k ≤ 16 → bdf (s.testBit 0) (s.testBit 1) (s.testBit 2) k j V = true → Vd V B → (∀ i, i < k → B.testBit i = false) →
    ∀ B', (∀ i, k ≤ i → i < 16 → B'.testBit i = B.testBit i) → pcS B' k ≤ j → Bd s B' := by
  intro k
  induction k with
  | zero =>
    intro j V B _ h hV hB B' h1 h2
    have hV' : Vd V B' := by
      intro a b f ha hb hf
      rw [hV a b f ha hb hf]
      by_cases hab : a = b
      · rw [decide_eq_false (show ¬ a ≠ b from fun z => z hab)]; rfl
      · rw [psP_c (fun i hi => h1 i (Nat.zero_le _) hi) hf (pr_lohi ha hb hab).1]
    have h' : bgo (s.testBit 0) (s.testBit 1) (s.testBit 2) V 15 0 = true := by
      cases j <;> exact h
    refine bgo_ok hV' 15 0 0 (by omega) ?_ h'
    intro a b f _ _ _
    show (0 : Nat).testBit _ = (decide (a ≠ b) && false)
    simp
  | succ k ih =>
    intro j V B hk h hV hB B' h1 h2
    have e2 : pcS B' (k + 1) = pcS B' k + (if B'.testBit k then 1 else 0) := rfl
    cases eb : B'.testBit k
    · rw [e2, eb, if_neg (by decide)] at h2
      have h' : bdf (s.testBit 0) (s.testBit 1) (s.testBit 2) k j V = true := by
        cases j with
        | zero => exact h
        | succ j =>
          rw [bdf] at h
          cases e : bdf (s.testBit 0) (s.testBit 1) (s.testBit 2) k (j + 1) V
          · rw [e] at h; cases h
          · rfl
      refine ih j V B (by omega) h' hV (fun i hi => hB i (by omega)) B' (fun i hi hi2 => ?_) (by omega)
      by_cases c : i = k
      · rw [c, eb, hB k (by omega)]
      · exact h1 i (by omega) hi2
    · rw [e2, eb, if_pos rfl] at h2
      cases j with
      | zero => omega
      | succ j =>
        have h' : bdf (s.testBit 0) (s.testBit 1) (s.testBit 2) k j (brm k V) = true := by
          rw [bdf] at h
          cases e : bdf (s.testBit 0) (s.testBit 1) (s.testBit 2) k (j + 1) V
          · rw [e] at h; cases h
          · rw [e] at h; exact h
        refine ih j (brm k V) (B ||| 2 ^ k) (by omega) h' (brm_ok (by omega) hV) (fun i hi => ?_) B' (fun i hi hi2 => ?_) (by omega)
        · rw [bor_bit, hB i (by omega), decide_eq_false (by omega)]; rfl
        · rw [bor_bit]
          by_cases c : i = k
          · rw [c, eb]; simp
          · rw [h1 i (by omega) hi2, decide_eq_false c, Bool.or_false]
theorem kV_ok : Vd kV 0 := by
  intro a b f ha hb hf
  rw [mkP_e kV_c ha hb hf]
  by_cases hab : a = b
  · rw [decide_eq_false (show ¬ a ≠ b from fun z => z hab)]; rfl
  rw [decide_eq_true (show a ≠ b from hab), Bool.true_and, Bool.true_and]
  obtain ⟨p1, p2, p3⟩ := pr_lohi ha hb hab
  have bf : ∀ x, bfr 0 x = true := fun x => by unfold bfr; simp
  unfold psP
  rw [p2, p3, bf, bf, bf]
  rcases Nat.le_total a b with z | z
  · rw [Nat.min_eq_left z, Nat.max_eq_right z]; simp
  · rw [Nat.min_eq_right z, Nat.max_eq_left z, Bool.and_comm]; simp
theorem bdf_s {c0 c1 c2 : Bool} {k j V : Nat} (h1 : bdf c0 c1 c2 k (j + 1) V = true) (h2 : bdf c0 c1 c2 k j (brm k V) = true) : bdf c0 c1 c2 (k + 1) (j + 1) V = true := by
  rw [bdf, h1, h2]; rfl
theorem Bd_all (h : ∀ s, s < 8 → bdf (s.testBit 0) (s.testBit 1) (s.testBit 2) 16 6 kV = true) : ∀ s B, VC s B → Bd s B := by
  intro s B hvc
  refine bdf_ok 16 6 kV 0 (by omega) (h s hvc.1) kV_ok (fun i _ => by simp) B (fun i h1 h2 => absurd h1 (by omega)) ?_
  rw [pcS_16]; exact hvc.2.2
