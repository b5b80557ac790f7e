/-! ===== the reference's moves ===== -/
def MS (m : Mem) (g : Nat → Nat) : Prop := ∀ k, k < 8 → m 32 k = nI (g k)
theorem MS.c {m m' : Mem} {g : Nat → Nat} (h : MS m g) (e : m' 32 = m 32) : MS m' g := by unfold MS; rw [e]; exact h
theorem MS.MA {m : Mem} {g : Nat → Nat} (h : MS m g) : MA m g := fun k hk => h k (by omega)
def WL : List Nat := [31, 38, 39, 40, 41, 42, 43, 44]
def Fr (m o : Mem) : Prop := (∀ r, [31, 38, 39, 40, 41, 42, 43, 44].contains r = false → o r = m r) ∧ ∀ k, k ≠ 12 → k ≠ 16 → o 31 k = m 31 k
theorem MW.c {g : Nat → Nat} {m m' : Mem} (h : MW g m) (e31 : m' 31 = m 31) (e38 : m' 38 = m 38) (e39 : m' 39 = m 39) (e40 : m' 40 = m 40) (e41 : m' 41 = m 41) (e42 : m' 42 = m 42) (e44 : m' 44 = m 44) : MW g m' := by
  unfold MW MD
  rw [e31, e44, e42]
  exact ⟨h.1, h.2.1, h.2.2.1.c e38 e39 e40, h.2.2.2.1.c e31 e41, h.2.2.2.2⟩
theorem MW.w {g : Nat → Nat} {h o : Mem} (hw : MW g o) : MW g (mgs h [31, 38, 39, 40, 41, 42, 43, 44] o) := hw.c rfl rfl rfl rfl rfl rfl rfl
theorem Fr.w {m o : Mem} (h : Fr m o) : Fr m (mgs m [31, 38, 39, 40, 41, 42, 43, 44] o) := ⟨fun r hr => mgs_o _ _ hr, fun k k1 k2 => h.2 k k1 k2⟩
theorem MW.D {g : Nat → Nat} {m : Mem} (h : MW g m) : ∀ n, n < 4096 → m 38 n = dI (Dn (sOf g) (g 3) n) := h.2.2.1.1
def numG (g : Nat → Nat) : Nat := 2048 * g 4 + 128 * g 5 + prN (g 6) (g 7)
theorem prG {g : Nat → Nat} (hv : VS g) : prN (g 6) (g 7) < 120 ∧ loP (prN (g 6) (g 7)) = g 6 ∧ hiP (prN (g 6) (g 7)) = g 7 := by
  have hlh := hv.lh
  have := pr_lohi hv.l hv.h (by omega)
  rw [Nat.min_eq_left (by omega), Nat.max_eq_right (by omega)] at this
  exact this
theorem numG_lt {g : Nat → Nat} (hv : VS g) : numG g < 4096 ∧ numG g % 128 < 120 := by
  have h1 := (prG hv).1
  have h2 := hv.f
  have h3 := hv.2.2.1
  unfold numG
  omega
theorem fstK_up {q : Nat → Bool} {r x : Nat} (h : fstK q r = some x) : ∀ d, fstK q (r + d) = some x := by
  intro d
  induction d with
  | zero => exact h
  | succ d ih => exact fstK_old ih
theorem Dn0 {g : Nat → Nat} (hv : VS g) (hh : hitS g = false) (h4 : g 4 = 1) : Dn (sOf g) (g 3) (numG g) = some 0 ↔ noM g = true := by
  obtain ⟨p1, p2, p3⟩ := prG hv
  unfold hitS at hh
  rw [Bool.or_eq_false_iff, decide_eq_false_iff_not, decide_eq_false_iff_not] at hh
  have hb := hv.2.2.2.2.2.1
  have en : numG g = 2048 + 128 * g 5 + prN (g 6) (g 7) := by unfold numG; omega
  have k1 : Kn (sOf g) (g 3) 1 (numG g) = noM g := by
    rw [en, Kn_f _ _ 0 hv.f p1]
    have ps : psP (g 3) (g 5) (prN (g 6) (g 7)) = true := by
      unfold psP
      rw [p2, p3, hb.1, hb.2.1, hb.2.2]
      simp [hh.1, hh.2]
    rw [ps, Bool.true_and, Bool.eq_iff_iff, fEsc_iff, noM_iff]
    have ef : ∀ t, fMv (sOf g) (g 3) (g 5) (prN (g 6) (g 7)) t = fxM g t := by
      intro t
      unfold fMv fxM
      rw [p2, p3]
    constructor
    · intro h t ht
      rw [← Bool.not_eq_true]
      intro c
      rw [← ef t] at c
      have := h t ht c
      cases this
    · intro h t ht c
      rw [ef t, h t ht] at c
      cases c
  constructor
  · intro h
    rw [← k1]
    exact (fstK_le h).2
  · intro h
    have q1 : fstK (fun r => Kn (sOf g) (g 3) r (numG g)) 1 = some 0 := by
      show (if Kn (sOf g) (g 3) 1 (numG g) = true then some 0 else none) = some 0
      rw [k1, if_pos h]
    exact fstK_up q1 59
theorem numberNow_ok {m : Mem} {g : Nat → Nat} (hs : MS m g) (hv : VS g) : xt_X9_numberNow m = some (nI (numG g)) := by
  unfold xt_X9_numberNow
  have hlh := hv.lh
  rw [xgd_in (by unfold vp_in; decide), xgd_in (by unfold vp_in; decide), xgd_in (by unfold vp_in; decide), xgd_in (by unfold vp_in; decide), tc4, tc5, tc6, tc7, hs 4 (by omega), hs 5 (by omega), hs 6 (by omega), hs 7 (by omega), mnumberOf_ok _ _ hv.l hv.h (by omega), Option.bind_some]
  rfl
theorem isHit_ok {m : Mem} {g : Nat → Nat} (hs : MS m g) (hv : VS g) : xt_X9_isHit m = some (bI (hitS g)) := by
  unfold xt_X9_isHit
  have hl := hv.l
  have hh := hv.h
  have hf := hv.f
  rw [xgd_in (by unfold vp_in; decide), xgd_in (by unfold vp_in; decide), xgd_in (by unfold vp_in; decide), xgd_in (by unfold vp_in; decide), tc5, tc6, tc7, hs 5 (by omega), hs 6 (by omega), hs 7 (by omega)]
  unfold hitS
  have e6 : nI (g 6) = nI (g 5) ↔ g 5 = g 6 := by rw [nI_eq (by omega) (by omega)]; exact ⟨fun h => h.symm, fun h => h.symm⟩
  have e7 : nI (g 7) = nI (g 5) ↔ g 5 = g 7 := by rw [nI_eq (by omega) (by omega)]; exact ⟨fun h => h.symm, fun h => h.symm⟩
  by_cases c6 : g 5 = g 6
  · rw [if_pos (e6.mpr c6), decide_eq_true c6]; rfl
  · rw [if_neg (mt e6.mp c6), decide_eq_false c6]
    by_cases c7 : g 5 = g 7
    · rw [if_pos (e7.mpr c7), decide_eq_true c7]; rfl
    · rw [if_neg (mt e7.mp c7), decide_eq_false c7]; rfl
theorem mcaught_ok {m : Mem} {g : Nat → Nat} (hp : PE m) (hs : MS m g) (hv : VS g) (hm : ME m) (hb : ∀ s B, VC s B → Bd s B) : ∃ o, xt_X9_isCaught m = some (bI (cau g), o) ∧ MW g o ∧ Fr m o := by
  unfold xt_X9_isCaught
  have hw := hv.2.2.1
  obtain ⟨o1, w1, w2, w3, w4⟩ := mwork_ok hp hs.MA hv hm hb
  rw [w1, Option.bind_some]
  have hs1 : MS (mgs m [31] o1) g := hs.c (mgs_o _ _ (by decide))
  rw [isHit_ok hs1 hv, Option.bind_some]
  have out : MW g (mgs m [31, 38, 39, 40, 41, 42, 43, 44] o1) ∧ Fr m (mgs m [31, 38, 39, 40, 41, 42, 43, 44] o1) := ⟨w2.w, fun r hr => mgs_o _ _ hr, fun k k1 k2 => w3 k k1 k2⟩
  unfold cau
  cases eh : hitS g
  · rw [if_pos (show bI false = 0 by decide), xgd_in (by unfold vp_in; decide), tc4, hs 4 (by omega), Bool.false_or]
    have e1 : nI (g 4) = 1 ↔ g 4 = 1 := nI_eq (b := 1) (by omega) (by omega)
    by_cases c1 : g 4 = 1
    · have hn := numG_lt hv
      rw [if_pos (e1.mpr c1), numberNow_ok hs1 hv, Option.bind_some, xgd_in (xin rfl hn.1 (by decide)), cl (by omega), w2.D _ hn.1, decide_eq_true c1, Bool.true_and]
      have hd := Dn0 hv eh c1
      have z : dI (Dn (sOf g) (g 3) (numG g)) = 0 ↔ noM g = true := by
        rw [lit 0, dI_eq (fun x hx => by have := Dn_lt hx; omega) (by omega), hd]
      cases en : noM g
      · rw [if_neg (fun q => by rw [z.mp q] at en; cases en)]
        exact ⟨_, rfl, out⟩
      · rw [if_pos (z.mpr en)]
        exact ⟨_, rfl, out⟩
    · rw [if_neg (mt e1.mp c1), decide_eq_false c1]
      exact ⟨_, rfl, out⟩
  · rw [if_neg (show ¬ bI true = 0 by decide)]
    exact ⟨_, rfl, out⟩
