/-! ===== the class works out all distances ===== -/
theorem fill_ok {N : Nat} (hN : N < 9000) (x : Int32) (f : Nat → Int32) : ∃ g, xt_J7_fill_53178 N x f = some g ∧ ∀ i, i < N → g i = x := by
  obtain ⟨g, h1, h2⟩ := lup (fun n (s : Nat → Int32) v => xt_J7_fill_53178_l5 N x (Int32.ofNat N) (fun s => some s) n v s) (fun s => some s) N (fun i s => ∀ j, j < i → s j = x)
    (fun n s _ => by
      show xt_J7_fill_53178_l5 _ _ (nI N) _ (n + 1) (nI N) s = _
      rw [xt_J7_fill_53178_l5, if_pos (by rw [ble _ _ (by omega) (by omega)]; omega)])
    (fun n i s hi hI => by
      show ∃ s', _ ∧ xt_J7_fill_53178_l5 _ _ (nI N) _ (n + 1) (nI i) s = _
      rw [xt_J7_fill_53178_l5, if_neg (by rw [ble _ _ (by omega) (by omega)]; omega), xgd_in (xin rfl hi (by omega)), cl (by omega), nI_1]
      refine ⟨_, fun j hj => ?_, rfl⟩
      unfold upd
      by_cases c : j = i
      · rw [if_pos c]
      · rw [if_neg c]; exact hI j (by omega))
    10000 0 f (by omega) (by omega) (fun j hj => absurd hj (by omega))
  exact ⟨g, h2, h1⟩
/-- no position has a distance of more than 29 -/
def Bd (s B : Nat) : Prop := ∀ n, n < 4096 → Kn s B 31 n = Kn s B 30 n
theorem Kn_big {s B n : Nat} (h : 4096 ≤ n) (r : Nat) : Kn s B r n = false := Kn_nopos (by unfold isPos; rw [decide_eq_false (by omega)]; rfl) r
theorem Kn_stay {s B R : Nat} (hR : 1 ≤ R) (h : ∀ n, n < 4096 → Kn s B (R + 1) n = Kn s B R n) : ∀ r, R ≤ r → Kn s B r = Kn s B R := by
  have h0 : Kn s B (R + 1) = Kn s B R := by
    funext n
    rcases Nat.lt_or_ge n 4096 with c | c
    · exact h n c
    · rw [Kn_big c, Kn_big c]
  intro r hr
  induction hr with
  | refl => rfl
  | @step r hr ih =>
    rw [← h0]
    funext n
    have hr' : R ≤ r := hr
    rw [Kn, Kn, ih, decide_eq_true (show 1 ≤ r by omega), decide_eq_true hR]
theorem Dn_of {s B n r R : Nat} (hR : 1 ≤ R) (hr : R ≤ r) (hr2 : r ≤ 60) (h : ∀ n, n < 4096 → Kn s B (R + 1) n = Kn s B R n) : fstK (fun r => Kn s B r n) r = Dn s B n := by
  have hm : ∀ r, (fun r => Kn s B r n) r = true → (fun r => Kn s B r n) (r + 1) = true := fun r => Kn_mono1 s B r n
  have st := Kn_stay hR h
  have key : ∀ d, fstK (fun r => Kn s B r n) (r + d) = fstK (fun r => Kn s B r n) r := by
    intro d
    induction d with
    | zero => rfl
    | succ d ih =>
      rw [← Nat.add_assoc, fstK_eq, ih]
      rw [st (r + d + 1) (by omega), st (r + d) (by omega)]
  unfold Dn
  rw [show 60 = r + (60 - r) by omega, key]
theorem FKm.c {m m' : Mem} {s B r : Nat} (h : FKm m s B r) (e : m' 11 = m 11) : FKm m' s B r := fun p hp => by rw [e]; exact h p hp
theorem HKm.c {m m' : Mem} {s B r : Nat} (h : HKm m s B r) (e : m' 12 = m 12) : HKm m' s B r := fun p hp => by rw [e]; exact h p hp
theorem DSm.c {m m' : Mem} {s B r : Nat} (h : DSm m s B r) (e : m' 10 = m 10) : DSm m' s B r := fun p hp => by rw [e]; exact h p hp
theorem Kn_two {s B j : Nat} (h : ∀ n, n < 4096 → Kn s B (2 * j + 2) n = Kn s B (2 * j) n) : ∀ n, n < 4096 → Kn s B (2 * j + 1 + 1) n = Kn s B (2 * j + 1) n := by
  intro n hn
  have h1 := Kn_mono1 s B (2 * j) n
  have h2 := Kn_mono1 s B (2 * j + 1) n
  have h3 := h n hn
  rw [show 2 * j + 2 = 2 * j + 1 + 1 by omega] at h3
  revert h1 h2 h3
  cases Kn s B (2 * j) n <;> cases Kn s B (2 * j + 1) n <;> cases Kn s B (2 * j + 1 + 1) n <;> simp
theorem exq {α β : Type} {z z' : α} {f : β → α} {P : β → Prop} (e : z = z') (h : ∃ m', z' = f m' ∧ P m') : ∃ m', z = f m' ∧ P m' := by rw [e]; exact h
theorem workOut_loop {hM : Mem} {s B : Nat} (hg : GE hM) (he : EF hM s B) (hb : Bd s B) (k : Mem → Option Mem) : ∀ (n j : Nat) (v : Int32) (mM : Mem), j ≤ 16 → 17 - j < n →
    FKm mM s B (2 * j) → HKm mM s B (2 * j) → DSm mM s B (2 * j) → (v = 0 → ∃ i, j = i + 1 ∧ ∀ n, n < 4096 → Kn s B (2 * i + 2) n = Kn s B (2 * i) n) → (v ≠ 0 → j = 0 ∨ ∃ i, j = i + 1 ∧ ¬ ∀ n, n < 4096 → Kn s B (2 * i + 2) n = Kn s B (2 * i) n) →
    ∃ m', xt_X0_workOut_l29 hM k n v (nI (2 * j)) mM = k (mgs hM [10, 11, 12] m') ∧ ∀ n, n < 4096 → m' 10 n = dI (Dn s B n) := by
  intro n
  induction n with
  | zero => intro j v mM _ h; omega
  | succ n ih =>
    intro j v mM hj hn hF hH hD hv0 hv1
    rw [xt_X0_workOut_l29]
    by_cases c : v = 0
    · rw [if_pos c]
      refine ⟨mM, rfl, fun n hn => ?_⟩
      obtain ⟨i, e, h⟩ := hv0 c
      rw [hD n hn, Dn_of (R := 2 * i + 1) (by omega) (by omega) (by omega) (Kn_two h)]
    · rw [if_neg c]
      have hj2 : j ≤ 15 := by
        rcases hv1 c with h | ⟨i, e, h⟩
        · omega
        · rcases Nat.lt_or_ge j 16 with q | q
          · omega
          · exfalso
            apply h
            intro n hn
            have st := Kn_stay (R := 30) (by omega) hb
            rw [st (2 * i + 2) (by omega), st (2 * i) (by omega)]
      rw [lit 4096, if_neg (by rw [ble _ _ (by omega) (by omega)]; omega)]
      obtain ⟨v1, s1, f1, f2, f3, f4⟩ := fox_sweep (hM := mgs hM [10, 11, 12] mM) (s0 := mgs hM [10, 11] mM) (r := 2 * j) (j := j) (hg.mgs (ngr (by decide))) (he.mgs (by decide)) rfl (hF.c rfl) (hH.c rfl) (hD.c rfl)
        (fun (v3_5 : Int32) (m_6 : Mem) => (xt_X0_workOut_l71 (nI (2 * j)) (mgs (mgs hM [10, 11] m_6) [12] mM) (fun (v3_8 : Int32) (m_9 : Mem) => (if v3_8 = 0 then (xt_X0_workOut_l29 hM k n (0 : Int32) (nI (2 * j) + (2 : Int32)) (mgs (mgs hM [10, 12] m_9) [11] m_6)) else (xt_X0_workOut_l29 hM k n (1 : Int32) (nI (2 * j) + (2 : Int32)) (mgs (mgs hM [10, 12] m_9) [11] m_6)))) 10000 v3_5 (0 : Int32) (mgs (mgs hM [10] m_6) [12] mM)))
      have f1' := f1
      refine exq f1' ?_
      try dsimp only
      obtain ⟨v2, s2, g1, g2, g3, g4⟩ := hunt_sweep (hM := mgs (mgs hM [10, 11] (mgs (mgs hM [10, 11, 12] mM) [10, 11] s1)) [12] mM) (s0 := mgs (mgs hM [10] (mgs (mgs hM [10, 11, 12] mM) [10, 11] s1)) [12] mM) (r := 2 * j + 1) (j := j)
        ((hg.mgs (ngr (by decide))).mgs (ngr (by decide))) ((he.mgs (by decide)).mgs (by decide)) rfl (f2.c rfl)
        (fun p hp => (hH p hp).congr (fun f hf => ((Kn_par s B j).1 f p hf hp).symm)) (f3.c rfl) v1
        (fun (v3_8 : Int32) (m_9 : Mem) => (if v3_8 = 0 then (xt_X0_workOut_l29 hM k n (0 : Int32) (nI (2 * j) + (2 : Int32)) (mgs (mgs hM [10, 12] m_9) [11] (mgs (mgs hM [10, 11, 12] mM) [10, 11] s1))) else (xt_X0_workOut_l29 hM k n (1 : Int32) (nI (2 * j) + (2 : Int32)) (mgs (mgs hM [10, 12] m_9) [11] (mgs (mgs hM [10, 11, 12] mM) [10, 11] s1)))))
      refine exq g1 ?_
      try dsimp only
      have e2 : nI (2 * j) + (2 : Int32) = nI (2 * (j + 1)) := by rw [lit 2, nI_add]; rfl
      rw [e2]
      have hst : v2 = 0 ↔ ∀ n, n < 4096 → Kn s B (2 * j + 2) n = Kn s B (2 * j) n := by
        rw [g4, f4]
        constructor
        · rintro ⟨a, b⟩ n hn
          rcases Nat.lt_or_ge n 2048 with q | q
          · rw [show 2 * j + 2 = 2 * j + 1 + 1 by omega, b n q]
            by_cases c2 : n % 128 < 120
            · have := (Kn_par s B j).1 (n / 128 % 16) (n % 128) (Nat.mod_lt _ (by omega)) c2
              rw [show 128 * (n / 128 % 16) + n % 128 = n by omega] at this
              exact this
            · rw [Kn_nopos (nopos120 (by omega)), Kn_nopos (nopos120 (by omega))]
          · rw [← a n q hn]
            by_cases c2 : n % 128 < 120
            · have := (Kn_par s B j).2 (n / 128 % 16) (n % 128) (Nat.mod_lt _ (by omega)) c2
              rw [show 2048 + 128 * (n / 128 % 16) + n % 128 = n by omega] at this
              exact this
            · rw [Kn_nopos (nopos120 (by omega)), Kn_nopos (nopos120 (by omega))]
        · intro h
          have h2 := Kn_two h
          refine ⟨fun n q hn => ?_, fun n hn => ?_⟩
          · have h3 := h2 n hn
            rw [← h3, ← h n hn]
          · exact h2 n (by omega)
      have step : ∀ v : Int32, (v = 0 ↔ v2 = 0) → ∃ m', xt_X0_workOut_l29 hM k n v (nI (2 * (j + 1))) (mgs (mgs hM [10, 12] (mgs (mgs (mgs hM [10, 11] (mgs (mgs hM [10, 11, 12] mM) [10, 11] s1)) [12] mM) [10, 12] s2)) [11] (mgs (mgs hM [10, 11, 12] mM) [10, 11] s1)) = k (mgs hM [10, 11, 12] m') ∧ ∀ n, n < 4096 → m' 10 n = dI (Dn s B n) := by
        intro v hv
        refine ih (j + 1) v _ (by omega) (by omega) ?_ (g2.c rfl) (g3.c rfl) (fun z => ⟨j, rfl, hst.mp (hv.mp z)⟩) (fun z => Or.inr ⟨j, rfl, fun q => z (hv.mpr (hst.mpr q))⟩)
        exact fun p hp => ((f2 p hp).congr (fun f hf => ((Kn_par s B j).2 f p hf hp).symm))
      by_cases c2 : v2 = 0
      · rw [if_pos c2]; exact step 0 ⟨fun _ => c2, fun _ => rfl⟩
      · rw [if_neg c2]; exact step 1 ⟨fun z => absurd z (by decide), fun z => absurd z c2⟩
theorem workOut_ok {m : Mem} {s B : Nat} (hg : GE m) (he : EF m s B) (hb : Bd s B) : ∃ o, xt_X0_workOut m = some o ∧ ∀ n, n < 4096 → o 10 n = dI (Dn s B n) := by
  unfold xt_X0_workOut
  obtain ⟨d, hd, hd2⟩ := fill_ok (N := 4096) (by omega) (-6 : Int32) (m 10)
  obtain ⟨f, hf, hf2⟩ := fill_ok (N := 120) (by omega) (0 : Int32) (m 11)
  obtain ⟨h, hh, hh2⟩ := fill_ok (N := 120) (by omega) (0 : Int32) (m 12)
  rw [hd, Option.bind_some, hf, Option.bind_some, hh, Option.bind_some]
  have z : ∀ (g : Nat → Int32), (∀ i, i < 120 → g i = 0) → ∀ (q : Nat → Nat → Nat) (p : Nat), p < 120 → msk (g p) (fun f => Kn s B (2 * 0) (q f p)) := fun g h q p hp => by rw [h p hp]; exact msk_0.congr (fun _ _ => rfl)
  obtain ⟨m', h1, h2⟩ := workOut_loop (hM := mset (mset (mset m 10 d) 11 f) 12 h) (s := s) (B := B) (((hg.mset (by omega)).mset (by omega)).mset (by omega)) he hb (fun (m_10 : Mem) => (some (mgs m [10, 11, 12] m_10))) 10000 0 1 (mset (mset (mset m 10 d) 11 f) 12 h) (by omega) (by omega)
    (fun p hp => z f hf2 (fun f p => 2048 + 128 * f + p) p hp) (fun p hp => z h hh2 (fun f p => 128 * f + p) p hp) (fun n hn => hd2 n hn) (fun q => absurd q (by decide)) (fun _ => Or.inl rfl)
  exact ⟨_, h1, fun n hn => h2 n hn⟩
