/-! ===== the reference's best move, at last ===== -/
theorem nIneg {x : Nat} (h : x < 2 ^ 31) : ¬ nI x < 0 := by rw [lit 0, nI_ltI h (by omega)]; omega
theorem findBest_ok {m : Mem} {g : Nat → Nat} (hp : PE m) (hs : MS m g) (hv : VS g) (hm : ME m) (hb : ∀ s B, VC s B → Bd s B) :
    ∃ o, xt_X9_findBest m = some (bI (best g).isSome, o) ∧ ME o ∧ o 31 17 = frI (best g) ∧ o 31 18 = toI (best g) ∧ (∀ k, k ≠ 12 → k ≠ 16 → k ≠ 17 → k ≠ 18 → o 31 k = m 31 k) ∧ ∀ r, [31, 38, 39, 40, 41, 42, 43, 44].contains r = false → o r = m r := by
  unfold xt_X9_findBest
  have hl := hv.l
  have hw4 := hv.2.2.1
  obtain ⟨hM, hhM⟩ : ∃ hM : Mem, hM = mset m 31 (upd (upd (m 31) 17 (-6 : Int32)) 18 (-6 : Int32)) := ⟨_, rfl⟩
  rw [← hhM]
  have pM : PE hM := hp.c (by rw [hhM]; exact mset_n _ _ (by omega)) (by rw [hhM]; exact mset_n _ _ (by omega))
  have sM : MS hM g := hs.c (by rw [hhM]; exact mset_n _ _ (by omega))
  have e31 : hM 31 = upd (upd (m 31) 17 (-6 : Int32)) 18 (-6 : Int32) := by rw [hhM]; exact mset_s _ _ _
  have eM : ME hM := hm.c2 (by rw [e31, upd_n _ _ (by omega), upd_n _ _ (by omega)]) (by rw [e31, upd_n _ _ (by omega), upd_n _ _ (by omega)]) (by rw [hhM]; exact mset_n _ _ (by omega)) (by rw [hhM]; exact mset_n _ _ (by omega)) (by rw [hhM]; exact mset_n _ _ (by omega)) (by rw [hhM]; exact mset_n _ _ (by omega)) (by rw [hhM]; exact mset_n _ _ (by omega)) (by rw [hhM]; exact mset_n _ _ (by omega))
  have fr0 : ∀ r, [31, 38, 39, 40, 41, 42, 43, 44].contains r = false → hM r = m r := fun r hr => by
    rw [hhM]
    exact mset_n _ _ (fun e => by subst e; cases hr)
  have k0 : ∀ k, k ≠ 12 → k ≠ 16 → k ≠ 17 → k ≠ 18 → hM 31 k = m 31 k := fun k _ _ a b => by rw [e31, upd_n _ _ b, upd_n _ _ a]
  have h0 : QB g hM (16 * 0) 0 hM := by
    refine ⟨eM, ?_, fun _ _ _ _ _ => rfl⟩
    show hM 31 17 = -6 ∧ hM 31 18 = -6
    rw [e31]
    exact ⟨by rw [upd_n _ _ (by omega), upd_s], by rw [upd_s]⟩
  have key := fun (K : Int32 → Mem → Option (Int32 × Mem)) => lup (fun n (q : Int32 × Mem) v => xt_X9_findBest_l16 hM K n q.1 v q.2) (fun q => K q.1 (mgs hM [31, 38, 39, 40, 41, 42, 43, 44] q.2)) 16
    (fun i q => QB g hM (16 * i) q.1 q.2)
    (fun n q _ => by
      show xt_X9_findBest_l16 _ _ (n + 1) q.1 (nI 16) q.2 = _
      rw [xt_X9_findBest_l16, if_pos (show (16 : Int32) ≤ nI 16 by decide)])
    (fun n i q hi hI => by
      show ∃ s', _ ∧ xt_X9_findBest_l16 _ _ (n + 1) q.1 (nI i) q.2 = _
      rw [xt_X9_findBest_l16, lit 16, if_neg (by rw [ble _ _ (by omega) (by omega)]; omega), nI_1]
      have pq : PE (mgs hM [31, 38, 39, 40, 41, 42, 43, 44] q.2) := pM.c rfl rfl
      have sq : MS (mgs hM [31, 38, 39, 40, 41, 42, 43, 44] q.2) g := sM.c rfl
      have hq : QB g (mgs hM [31, 38, 39, 40, 41, 42, 43, 44] q.2) (16 * i) q.1 (mgs hM [31, 38, 39, 40, 41, 42, 43, 44] q.2) := ⟨hI.1.w, hI.2.1, fun _ _ _ _ _ => rfl⟩
      obtain ⟨v', m', h1, h2⟩ := find24 pq sq hv hb hi (fun (v1_5 : Int32) (m_6 : Mem) => (xt_X9_findBest_l16 hM K n v1_5 (nI (i + 1)) (mgs hM [31, 38, 39, 40, 41, 42, 43, 44] m_6))) hq
      refine exp2 h2 ?_
      refine ⟨(v', mgs hM [31, 38, 39, 40, 41, 42, 43, 44] (mgs (mgs hM [31, 38, 39, 40, 41, 42, 43, 44] q.2) [31, 38, 39, 40, 41, 42, 43, 44] m')), ?_, rfl⟩
      show QB g hM (16 * i + 16) v' _
      refine ⟨h1.1.w.w, h1.2.1, fun k' a b c d => ?_⟩
      show m' 31 k' = _
      rw [h1.2.2 k' a b c d]
      exact hI.2.2 k' a b c d)
    10000 0 ((0 : Int32), hM) (by omega) (by omega) h0
  obtain ⟨q, q1, q2⟩ := key _
  have q2' : xt_X9_findBest_l16 hM _ 10000 (0 : Int32) (0 : Int32) hM = _ := q2
  rw [q2']
  obtain ⟨hE, hQ, hK⟩ := q1
  have hQ : (match bst (okM g) (wM g) 256 with
    | none => q.2 31 17 = -6 ∧ q.2 31 18 = -6
    | some j => q.2 31 17 = nI (j / 16) ∧ q.2 31 18 = nI (j % 16) ∧ q.1 = mval (g 4) (wM g j)) := hQ
  rw [xgd_in (by unfold vp_in; decide), xgd_in (by unfold vp_in; decide), tc4, tc6, hs 4 (by omega), hs 6 (by omega)]
  obtain ⟨mA, hmA⟩ : ∃ mA : Mem, mA = mgs m [31, 38, 39, 40, 41, 42, 43, 44] (mgs hM [31, 38, 39, 40, 41, 42, 43, 44] q.2) := ⟨_, rfl⟩
  rw [← hmA]
  have A31 : mA 31 = q.2 31 := by rw [hmA]; rfl
  have EA : ME mA := by rw [hmA]; exact hE.w.w
  have pA : PE mA := hp.c (by rw [hmA]; rfl) (by rw [hmA]; rfl)
  have sA : MS mA g := hs.c (by rw [hmA]; rfl)
  have lw : ∀ k, mgs hM [31, 38, 39, 40, 41, 42, 43, 44] q.2 31 k = q.2 31 k := fun _ => rfl
  have e0 : nI (g 4) = 0 ↔ g 4 = 0 := by rw [lit 0, nI_eq (by omega) (by omega)]
  -- the end, when nothing more is set
  have fin : ∀ (o : Mem), ME o → (∀ k, k ≠ 12 → k ≠ 16 → o 31 k = q.2 31 k) → best g = bst (okM g) (wM g) 256 →
      ∃ o', (if o 31 17 < 0 then some ((0 : Int32), mgs m [31, 38, 39, 40, 41, 42, 43, 44] o) else some ((1 : Int32), mgs m [31, 38, 39, 40, 41, 42, 43, 44] o)) = some (bI (best g).isSome, o') ∧ ME o' ∧ o' 31 17 = frI (best g) ∧ o' 31 18 = toI (best g) ∧ (∀ k, k ≠ 12 → k ≠ 16 → k ≠ 17 → k ≠ 18 → o' 31 k = m 31 k) ∧ ∀ r, [31, 38, 39, 40, 41, 42, 43, 44].contains r = false → o' r = m r := by
    intro o oE o31 eb
    have hk' : ∀ k, k ≠ 12 → k ≠ 16 → k ≠ 17 → k ≠ 18 → mgs m [31, 38, 39, 40, 41, 42, 43, 44] o 31 k = m 31 k := fun k a b c d => by
      show o 31 k = _
      rw [o31 k a b, hK k a b c d, k0 k a b c d]
    have hr' : ∀ r, [31, 38, 39, 40, 41, 42, 43, 44].contains r = false → mgs m [31, 38, 39, 40, 41, 42, 43, 44] o r = m r := fun r hr => mgs_o _ _ hr
    rw [eb]
    cases e : bst (okM g) (wM g) 256 with
    | none =>
      rw [e] at hQ
      dsimp only at hQ
      rw [if_pos (show o 31 17 < 0 by rw [o31 17 (by omega) (by omega), hQ.1]; decide)]
      exact ⟨_, rfl, oE.w, (o31 17 (by omega) (by omega)).trans hQ.1, (o31 18 (by omega) (by omega)).trans hQ.2, hk', hr'⟩
    | some j =>
      rw [e] at hQ
      dsimp only at hQ
      have hj := (bst_ok _ _ e).1
      rw [if_neg (show ¬ o 31 17 < 0 by rw [o31 17 (by omega) (by omega), hQ.1]; exact nIneg (by omega))]
      exact ⟨_, rfl, oE.w, (o31 17 (by omega) (by omega)).trans hQ.1, (o31 18 (by omega) (by omega)).trans hQ.2.1, hk', hr'⟩
  by_cases c0 : g 4 = 0
  · rw [if_pos (e0.mpr c0)]
    obtain ⟨o, o1, o2, o3⟩ := misMove_ok pA sA hv EA hb hl hl
    rw [o1, Option.bind_some]
    have o31 : ∀ k, k ≠ 12 → k ≠ 16 → o 31 k = q.2 31 k := fun k a b => by rw [o3.2 k a b, A31]
    dsimp only
    cases el : legal g (g 6) (g 6)
    · rw [if_pos (show bI false = 0 by decide)]
      refine fin o (MW_ME hv o2) o31 ?_
      unfold best
      rw [el, if_neg (show ¬ (g 4 = 0 ∧ false = true) from fun z => by cases z.2)]
    · rw [if_neg (show ¬ bI true = 0 by decide)]
      have hbest : best g = (match bst (okM g) (wM g) 256 with
        | none => some (17 * g 6)
        | some j => if hw g (g 6) (g 6) < wM g j then some (17 * g 6) else some j) := by
        unfold best
        rw [el, if_pos (show g 4 = 0 ∧ true = true from ⟨c0, rfl⟩)]
        cases bst (okM g) (wM g) 256 <;> rfl
      have W : xt_X9_worth (nI (g 6)) (nI (g 6)) (mgs m [31, 38] o) = some (mval (g 4) (wV g (g 6) (g 6))) := mworth_ok (m := mgs m [31, 38] o) (hs.c rfl) hv (fun n hn => o2.D n hn) hl hl el
      rw [W, Option.bind_some, if_neg (nIneg (show g 6 < 2 ^ 31 by omega))]
      have ew : wV g (g 6) (g 6) = hw g (g 6) (g 6) := if_neg (by omega)
      -- the end, when the stay is set
      have fin2 : best g = some (17 * g 6) → ∃ o', some ((1 : Int32), (mgs (mset m 31 (upd (upd (o 31) 17 (nI (g 6))) 18 (nI (g 6)))) [38, 39, 40, 41, 42, 43, 44] o)) = some (bI (best g).isSome, o') ∧ ME o' ∧ o' 31 17 = frI (best g) ∧ o' 31 18 = toI (best g) ∧ (∀ k, k ≠ 12 → k ≠ 16 → k ≠ 17 → k ≠ 18 → o' 31 k = m 31 k) ∧ ∀ r, [31, 38, 39, 40, 41, 42, 43, 44].contains r = false → o' r = m r := by
        intro eb
        rw [eb]
        refine ⟨_, rfl, ?_, ?_, ?_, ?_, ?_⟩
        · refine (MW_ME hv o2).c2 ?_ ?_ rfl rfl rfl rfl rfl rfl
          · show upd (upd (o 31) 17 (nI (g 6))) 18 (nI (g 6)) 12 = _
            rw [upd_n _ _ (by omega), upd_n _ _ (by omega)]
          · show upd (upd (o 31) 17 (nI (g 6))) 18 (nI (g 6)) 16 = _
            rw [upd_n _ _ (by omega), upd_n _ _ (by omega)]
        · show upd (upd (o 31) 17 (nI (g 6))) 18 (nI (g 6)) 17 = nI (17 * g 6 / 16)
          rw [upd_n _ _ (by omega), upd_s, show 17 * g 6 / 16 = g 6 by omega]
        · show upd (upd (o 31) 17 (nI (g 6))) 18 (nI (g 6)) 18 = nI (17 * g 6 % 16)
          rw [upd_s, show 17 * g 6 % 16 = g 6 by omega]
        · intro k a b c d
          show upd (upd (o 31) 17 (nI (g 6))) 18 (nI (g 6)) k = _
          rw [upd_n _ _ d, upd_n _ _ c, o31 k a b, hK k a b c d, k0 k a b c d]
        · intro r hr
          have hne : ∀ x, [31, 38, 39, 40, 41, 42, 43, 44].contains x = true → r ≠ x := fun x hx e => by subst e; rw [hr] at hx; cases hx
          have h38 : [38, 39, 40, 41, 42, 43, 44].contains r = false := by simp [hne 38 (by decide), hne 39 (by decide), hne 40 (by decide), hne 41 (by decide), hne 42 (by decide), hne 43 (by decide), hne 44 (by decide)]
          rw [mgs_o _ _ h38, mset_n _ _ (hne 31 (by decide))]
      cases e : bst (okM g) (wM g) 256 with
      | none =>
        rw [e] at hQ hbest
        dsimp only at hQ hbest
        rw [if_pos (show o 31 17 < 0 by rw [o31 17 (by omega) (by omega), hQ.1]; decide)]
        exact fin2 hbest
      | some j =>
        have e' := e
        rw [e] at hQ hbest
        dsimp only at hQ hbest
        have hj := (bst_ok _ _ e).1
        rw [if_neg (show ¬ o 31 17 < 0 by rw [o31 17 (by omega) (by omega), hQ.1]; exact nIneg (by omega))]
        have wl := wV_le (g := g) (a := g 6) (t := g 6)
        have wl2 := wV_le (g := g) (a := j / 16) (t := j % 16)
        have cmp : q.1 ≤ mval (g 4) (wV g (g 6) (g 6)) ↔ ¬ hw g (g 6) (g 6) < wM g j := by
          rw [hQ.2.2, ← ew]
          show mval (g 4) (wV g (j / 16) (j % 16)) ≤ _ ↔ ¬ _ < wV g (j / 16) (j % 16)
          rw [mval_le wl2.1 wl.1 (fun z => ⟨wl2.2 z, wl.2 z⟩)]; omega
        by_cases cc : hw g (g 6) (g 6) < wM g j
        · rw [if_neg (fun z => cmp.mp z cc)]
          rw [if_pos cc] at hbest
          exact fin2 hbest
        · rw [if_pos (cmp.mpr cc)]
          rw [if_neg cc] at hbest
          exact fin o (MW_ME hv o2) o31 (by rw [hbest, e'])
  · rw [if_neg (mt e0.mp c0)]
    have eb : best g = bst (okM g) (wM g) 256 := by
      unfold best
      rw [if_neg (fun z => c0 z.1)]
    rw [hmA]
    exact fin (mgs hM [31, 38, 39, 40, 41, 42, 43, 44] q.2) hE.w (fun k _ _ => rfl) eb
