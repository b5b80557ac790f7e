/-! ===== sweeps over the pairs ===== -/
def FKm (m : Mem) (s B r : Nat) : Prop := ∀ p, p < 120 → msk (m 11 p) (fun f => Kn s B r (2048 + 128 * f + p))
def HKm (m : Mem) (s B r : Nat) : Prop := ∀ p, p < 120 → msk (m 12 p) (fun f => Kn s B r (128 * f + p))
def DSm (m : Mem) (s B r : Nat) : Prop := ∀ n, n < 4096 → m 10 n = dI (fstK (fun r => Kn s B r n) r)
theorem GE.mgs {h g : Mem} (hg : GE h) {l : List Nat} (hl : ∀ r, 2 ≤ r → r ≤ 8 → l.contains r = false) : GE (mgs h l g) := fun r h1 h2 => by rw [mgs_o _ _ (hl r h1 h2)]; exact hg r h1 h2
theorem GE.mset {h : Mem} (hg : GE h) {j : Nat} {f : Nat → Int32} (hj : ¬ (2 ≤ j ∧ j ≤ 8)) : GE (mset h j f) := fun r h1 h2 => by rw [mset_n _ _ (by omega)]; exact hg r h1 h2
theorem ngr {l : List Nat} (h : (List.range 9).all (fun r => decide (r < 2) || !l.contains r) = true) : ∀ r, 2 ≤ r → r ≤ 8 → l.contains r = false := fun r h1 h2 => by
  have := List.all_eq_true.mp h r (List.mem_range.mpr (by omega))
  have h3 : decide (r < 2) = false := by simp; omega
  rw [h3] at this
  simpa using this
theorem EF.mgs {h g : Mem} {s B : Nat} (he : EF h s B) {l : List Nat} (hl : l.contains 9 = false) : EF (mgs h l g) s B := by unfold EF; rw [mgs_o _ _ hl]; exact he
theorem Kn_nopos {s B n : Nat} (h : isPos B n = false) (r : Nat) : Kn s B r n = false := by
  rw [Bool.eq_false_iff]; intro h2; rw [Kn_pos h2] at h; cases h
theorem nopos120 {B n : Nat} (h : 120 ≤ n % 128) : isPos B n = false := by
  unfold isPos; rw [decide_eq_false (show ¬ n % 128 < 120 by omega)]; simp
theorem fstK_eq {s B n r : Nat} (h : Kn s B (r + 1) n = Kn s B r n) : fstK (fun r => Kn s B r n) (r + 1) = fstK (fun r => Kn s B r n) r := by
  have hm : ∀ r, (fun r => Kn s B r n) r = true → (fun r => Kn s B r n) (r + 1) = true := fun r => Kn_mono1 s B r n
  cases e : fstK (fun r => Kn s B r n) r with
  | some x => rw [fstK_old e]
  | none =>
    rw [fstK_new e]
    have := (fstK_none hm rfl r).mp e
    have h2 : Kn s B (r + 1) n = false := by rw [h]; exact this
    simp [h2]
theorem fox_sweep {hM s0 : Mem} {s B r j : Nat} (hg : GE hM) (he : EF hM s B) (hr : r = 2 * j) (hF : FKm (mgs hM [10, 11] s0) s B r) (hH : HKm (mgs hM [10, 11] s0) s B r) (hD : DSm (mgs hM [10, 11] s0) s B r) (k : Int32 → Mem → Option Mem) :
    ∃ (v : Int32) (s' : Mem), xt_X0_workOut_l45 (nI r) hM k 10000 0 0 s0 = k v (mgs hM [10, 11] s') ∧ FKm (mgs hM [10, 11] s') s B (r + 1) ∧ DSm (mgs hM [10, 11] s') s B (r + 1) ∧ (v = 0 ↔ ∀ n, 2048 ≤ n → n < 4096 → Kn s B (r + 1) n = Kn s B r n) := by
  have key := lup (fun n (q : Int32 × Mem) v => xt_X0_workOut_l45 (nI r) hM k n q.1 v q.2) (fun q => k q.1 (mgs hM [10, 11] q.2)) 120
      (fun i q => (∀ p, p < 120 → msk (mgs hM [10, 11] q.2 11 p) (fun f => if p < i then Kn s B (r + 1) (2048 + 128 * f + p) else Kn s B r (2048 + 128 * f + p))) ∧
        (∀ n, n < 4096 → mgs hM [10, 11] q.2 10 n = dI (fstK (fun r => Kn s B r n) (if 2048 ≤ n ∧ n % 128 < i then r + 1 else r))) ∧
        (q.1 = 0 ↔ ∀ n, 2048 ≤ n → n < 4096 → n % 128 < i → Kn s B (r + 1) n = Kn s B r n))
      (fun n q _ => by
        show xt_X0_workOut_l45 _ _ _ (n + 1) q.1 (nI 120) q.2 = _
        rw [xt_X0_workOut_l45, if_pos (show (120 : Int32) ≤ nI 120 by decide)])
      (fun n i q hi hI => by
        obtain ⟨I1, I2, I3⟩ := hI
        show ∃ s', _ ∧ xt_X0_workOut_l45 _ _ _ (n + 1) q.1 (nI i) q.2 = _
        rw [xt_X0_workOut_l45, lit 120, if_neg (by rw [ble _ _ (by omega) (by omega)]; omega), nI_1]
        have hg2 : GE (mgs hM [10, 11] q.2) := hg.mgs (ngr (by decide))
        have he2 : EF (mgs hM [10, 11] q.2) s B := he.mgs (by decide)
        have hFi : msk (mgs hM [10, 11] q.2 11 i) (fun f => Kn s B r (2048 + 128 * f + i)) := (I1 i hi).congr (fun f _ => by rw [if_neg (by omega)])
        have hHi : msk (mgs hM [10, 11] q.2 12 i) (fun f => Kn s B r (128 * f + i)) := by
          have := hH i hi
          rw [mgs_o _ _ (by decide)] at this ⊢
          exact this
        obtain ⟨x, o, h1, h2, h3, h4⟩ := foxLevel_ok hg2 he2 (L := r) hi hFi hHi
        rw [h1, Option.bind_some]
        have hx : msk x (fun f => !Kn s B r (2048 + 128 * f + i) && Kn s B (r + 1) (2048 + 128 * f + i)) := h2.congr (fun f hf => by
          rw [Kn_f s B r hf hi]
          by_cases z : psP B f i = true
          · rw [esc_eq (q := Kn s B r) z, z]; simp
          · have z' : psP B f i = false := by simpa using z
            rw [z']; simp)
        refine ⟨(q.1 ||| x, mgs hM [10, 11] o), ⟨?_, ?_, ?_⟩, rfl⟩
        · intro p hp
          dsimp only
          rw [mgs_i _ _ (by decide), mgs_i _ _ (by decide), h3]
          unfold upd
          by_cases c : p = i
          · subst c
            rw [if_pos rfl]
            refine (hFi.or hx).congr (fun f hf => ?_)
            rw [if_pos (by omega)]
            have := Kn_mono1 s B r (2048 + 128 * f + p)
            revert this
            cases Kn s B r (2048 + 128 * f + p) <;> cases Kn s B (r + 1) (2048 + 128 * f + p) <;> simp
          · rw [if_neg c]
            refine (I1 p hp).congr (fun f hf => ?_)
            by_cases c2 : p < i
            · rw [if_pos c2, if_pos (by omega)]
            · rw [if_neg c2, if_neg (by omega)]
        · intro n hn
          dsimp only
          rw [mgs_i _ _ (by decide), mgs_i _ _ (by decide), h4 n hn, I2 n hn, hx.at (Nat.mod_lt _ (by omega))]
          by_cases c : 2048 ≤ n ∧ n % 128 = i
          · have e : 2048 + 128 * (n / 128 % 16) + i = n := by omega
            rw [if_neg (show ¬ (2048 ≤ n ∧ n % 128 < i) by omega), if_pos (show 2048 ≤ n ∧ n % 128 < i + 1 by omega), e]
            have hm : ∀ r, (fun r => Kn s B r n) r = true → (fun r => Kn s B r n) (r + 1) = true := fun r => Kn_mono1 s B r n
            by_cases c2 : (!Kn s B r n && Kn s B (r + 1) n) = true
            · rw [if_pos ⟨by omega, by omega, c2⟩]
              simp only [Bool.and_eq_true, Bool.not_eq_true'] at c2
              rw [fstK_new ((fstK_none hm rfl r).mpr c2.1), if_pos c2.2]; rfl
            · rw [if_neg (fun z => c2 z.2.2), fstK_eq]
              have := Kn_mono1 s B r n
              revert c2 this
              cases Kn s B r n <;> cases Kn s B (r + 1) n <;> simp
          · rw [if_neg (fun z => c ⟨by omega, z.2.1⟩)]
            by_cases c2 : 2048 ≤ n ∧ n % 128 < i
            · rw [if_pos c2, if_pos (by omega)]
            · rw [if_neg c2, if_neg (by omega)]
        · have e0 : q.1 ||| x = 0 ↔ q.1 = 0 ∧ x = 0 := by
            constructor
            · intro h
              constructor
              · rw [beq0]; intro t ht; have := b_or q.1 x t; rw [h, b_0] at this; revert this; cases bt q.1 t <;> simp
              · rw [beq0]; intro t ht; have := b_or q.1 x t; rw [h, b_0] at this; revert this; cases bt x t <;> simp
            · rintro ⟨a, b⟩; rw [a, b]; rfl
          show q.1 ||| x = 0 ↔ _
          rw [e0, I3, hx.z]
          constructor
          · rintro ⟨a, b⟩ n h5 h6 h7
            by_cases c : n % 128 < i
            · exact a n h5 h6 c
            · have e : 2048 + 128 * (n / 128 % 16) + i = n := by omega
              have := b (n / 128 % 16) (Nat.mod_lt _ (by omega))
              rw [e] at this
              have h8 := Kn_mono1 s B r n
              revert this h8
              cases Kn s B r n <;> cases Kn s B (r + 1) n <;> simp
          · intro h
            refine ⟨fun n h5 h6 h7 => h n h5 h6 (by omega), fun f hf => ?_⟩
            rw [h (2048 + 128 * f + i) (by omega) (by omega) (by omega)]
            cases Kn s B r (2048 + 128 * f + i) <;> rfl)
      10000 0 ((0 : Int32), s0) (by omega) (by omega) ⟨fun p hp => (hF p hp).congr (fun f _ => by rw [if_neg (by omega)]), fun n hn => by rw [if_neg (by omega)]; exact hD n hn, by simp⟩
  obtain ⟨⟨v, s'⟩, ⟨I1, I2, I3⟩, h2⟩ := key
  refine ⟨v, s', h2, fun p hp => (I1 p hp).congr (fun f _ => by rw [if_pos hp]), fun n hn => ?_, ?_⟩
  · rw [I2 n hn]
    by_cases c : 2048 ≤ n ∧ n % 128 < 120
    · rw [if_pos c]
    · rw [if_neg c, fstK_eq]
      by_cases c2 : n % 128 < 120
      · have := (Kn_par s B j).1 (n / 128 % 16) (n % 128) (Nat.mod_lt _ (by omega)) c2
        rw [show 128 * (n / 128 % 16) + n % 128 = n by omega, ← hr] at this
        exact this
      · rw [Kn_nopos (nopos120 (by omega)), Kn_nopos (nopos120 (by omega))]
  · rw [I3]
    constructor
    · intro h n h5 h6
      by_cases c2 : n % 128 < 120
      · exact h n h5 h6 c2
      · rw [Kn_nopos (nopos120 (by omega)), Kn_nopos (nopos120 (by omega))]
    · intro h n h5 h6 _; exact h n h5 h6
theorem hunt_sweep {hM s0 : Mem} {s B r j : Nat} (hg : GE hM) (he : EF hM s B) (hr : r = 2 * j + 1) (hF : FKm (mgs hM [10, 12] s0) s B r) (hH : HKm (mgs hM [10, 12] s0) s B r) (hD : DSm (mgs hM [10, 12] s0) s B r) (v0 : Int32) (k : Int32 → Mem → Option Mem) :
    ∃ (v : Int32) (s' : Mem), xt_X0_workOut_l71 (nI (2 * j)) hM k 10000 v0 0 s0 = k v (mgs hM [10, 12] s') ∧ HKm (mgs hM [10, 12] s') s B (r + 1) ∧ DSm (mgs hM [10, 12] s') s B (r + 1) ∧ (v = 0 ↔ v0 = 0 ∧ ∀ n, n < 2048 → Kn s B (r + 1) n = Kn s B r n) := by
  have key := lup (fun n (q : Int32 × Mem) v => xt_X0_workOut_l71 (nI (2 * j)) hM k n q.1 v q.2) (fun q => k q.1 (mgs hM [10, 12] q.2)) 120
      (fun i q => (∀ p, p < 120 → msk (mgs hM [10, 12] q.2 12 p) (fun f => if p < i then Kn s B (r + 1) (128 * f + p) else Kn s B r (128 * f + p))) ∧
        (∀ n, n < 4096 → mgs hM [10, 12] q.2 10 n = dI (fstK (fun r => Kn s B r n) (if n < 2048 ∧ n % 128 < i then r + 1 else r))) ∧
        (q.1 = 0 ↔ v0 = 0 ∧ ∀ n, n < 2048 → n % 128 < i → Kn s B (r + 1) n = Kn s B r n))
      (fun n q _ => by
        show xt_X0_workOut_l71 _ _ _ (n + 1) q.1 (nI 120) q.2 = _
        rw [xt_X0_workOut_l71, if_pos (show (120 : Int32) ≤ nI 120 by decide)])
      (fun n i q hi hI => by
        obtain ⟨I1, I2, I3⟩ := hI
        show ∃ s', _ ∧ xt_X0_workOut_l71 _ _ _ (n + 1) q.1 (nI i) q.2 = _
        rw [xt_X0_workOut_l71, lit 120, if_neg (by rw [ble _ _ (by omega) (by omega)]; omega), nI_1 i]
        have hg2 : GE (mgs hM [10, 12] q.2) := hg.mgs (ngr (by decide))
        have he2 : EF (mgs hM [10, 12] q.2) s B := he.mgs (by decide)
        have hHi : msk (mgs hM [10, 12] q.2 12 i) (fun f => Kn s B r (128 * f + i)) := (I1 i hi).congr (fun f _ => by rw [if_neg (by omega)])
        have hFi : ∀ p, p < 120 → msk (mgs hM [10, 12] q.2 11 p) (fun f => Kn s B r (2048 + 128 * f + p)) := by
          intro p hp
          have := hF p hp
          rw [mgs_o _ _ (by decide)] at this ⊢
          exact this
        obtain ⟨x, o, h1, h2, h3, h4⟩ := huntersLevel_ok hg2 he2 (L := r) hi (show 1 ≤ r by omega) hFi hHi
        have h1' : xt_X0_huntersLevel (nI i) (nI (2 * j) + (1 : Int32)) (mgs hM [10, 12] q.2) = some (x, o) := by rw [nI_1, ← hr]; exact h1
        have hx := h2
        rw [h1', Option.bind_some]
        refine ⟨(q.1 ||| x, mgs hM [10, 12] o), ⟨?_, ?_, ?_⟩, rfl⟩
        · intro p hp
          dsimp only
          rw [mgs_i _ _ (by decide), mgs_i _ _ (by decide), h3]
          by_cases c : p = i
          · subst c
            rw [if_pos rfl]
            refine (hHi.or hx).congr (fun f hf => ?_)
            rw [if_pos (by omega)]
            have := Kn_mono1 s B r (128 * f + p)
            revert this
            cases Kn s B r (128 * f + p) <;> cases Kn s B (r + 1) (128 * f + p) <;> simp
          · rw [if_neg c]
            refine (I1 p hp).congr (fun f hf => ?_)
            by_cases c2 : p < i
            · rw [if_pos c2, if_pos (by omega)]
            · rw [if_neg c2, if_neg (by omega)]
        · intro n hn
          dsimp only
          rw [mgs_i _ _ (by decide), mgs_i _ _ (by decide), h4 n hn, I2 n hn, hx.at (Nat.mod_lt _ (by omega))]
          by_cases c : n < 2048 ∧ n % 128 = i
          · have e : 128 * (n / 128 % 16) + i = n := by omega
            rw [if_neg (show ¬ (n < 2048 ∧ n % 128 < i) by omega), if_pos (show n < 2048 ∧ n % 128 < i + 1 by omega), e]
            have hm : ∀ r, (fun r => Kn s B r n) r = true → (fun r => Kn s B r n) (r + 1) = true := fun r => Kn_mono1 s B r n
            by_cases c2 : (!Kn s B r n && Kn s B (r + 1) n) = true
            · rw [if_pos ⟨by omega, by omega, c2⟩]
              simp only [Bool.and_eq_true, Bool.not_eq_true'] at c2
              rw [fstK_new ((fstK_none hm rfl r).mpr c2.1), if_pos c2.2]; rfl
            · rw [if_neg (fun z => c2 z.2.2), fstK_eq]
              have := Kn_mono1 s B r n
              revert c2 this
              cases Kn s B r n <;> cases Kn s B (r + 1) n <;> simp
          · rw [if_neg (fun z => c ⟨by omega, z.2.1⟩)]
            by_cases c2 : n < 2048 ∧ n % 128 < i
            · rw [if_pos c2, if_pos (by omega)]
            · rw [if_neg c2, if_neg (by omega)]
        · have e0 : q.1 ||| x = 0 ↔ q.1 = 0 ∧ x = 0 := by
            constructor
            · intro h
              constructor
              · rw [beq0]; intro t ht; have := b_or q.1 x t; rw [h, b_0] at this; revert this; cases bt q.1 t <;> simp
              · rw [beq0]; intro t ht; have := b_or q.1 x t; rw [h, b_0] at this; revert this; cases bt x t <;> simp
            · rintro ⟨a, b⟩; rw [a, b]; rfl
          show q.1 ||| x = 0 ↔ _
          rw [e0, I3, hx.z]
          constructor
          · rintro ⟨⟨a0, a⟩, b⟩
            refine ⟨a0, fun n h5 h7 => ?_⟩
            by_cases c : n % 128 < i
            · exact a n h5 c
            · have e : 128 * (n / 128 % 16) + i = n := by omega
              have := b (n / 128 % 16) (Nat.mod_lt _ (by omega))
              rw [e] at this
              have h8 := Kn_mono1 s B r n
              revert this h8
              cases Kn s B r n <;> cases Kn s B (r + 1) n <;> simp
          · intro h
            refine ⟨⟨h.1, fun n h5 h7 => h.2 n h5 (by omega)⟩, fun f hf => ?_⟩
            rw [h.2 (128 * f + i) (by omega) (by omega)]
            cases Kn s B r (128 * f + i) <;> rfl)
      10000 0 (v0, s0) (by omega) (by omega) ⟨fun p hp => (hH p hp).congr (fun f _ => by rw [if_neg (by omega)]), fun n hn => by rw [if_neg (by omega)]; exact hD n hn, by simp⟩
  obtain ⟨⟨v, s'⟩, ⟨I1, I2, I3⟩, h2⟩ := key
  refine ⟨v, s', h2, fun p hp => (I1 p hp).congr (fun f _ => by rw [if_pos hp]), fun n hn => ?_, ?_⟩
  · rw [I2 n hn]
    by_cases c : n < 2048 ∧ n % 128 < 120
    · rw [if_pos c]
    · rw [if_neg c, fstK_eq]
      by_cases c2 : n % 128 < 120
      · have := (Kn_par s B j).2 (n / 128 % 16) (n % 128) (Nat.mod_lt _ (by omega)) c2
        rw [show 2048 + 128 * (n / 128 % 16) + n % 128 = n by omega, ← hr, show 2 * j + 2 = r + 1 by omega] at this
        exact this
      · rw [Kn_nopos (nopos120 (by omega)), Kn_nopos (nopos120 (by omega))]
  · rw [I3]
    constructor
    · rintro ⟨h0, h⟩
      refine ⟨h0, fun n h5 => ?_⟩
      by_cases c2 : n % 128 < 120
      · exact h n h5 c2
      · rw [Kn_nopos (nopos120 (by omega)), Kn_nopos (nopos120 (by omega))]
    · rintro ⟨h0, h⟩; exact ⟨h0, fun n h5 _ => h n h5⟩
