/-! ===== line ===== -/
theorem layb {M : Mem} {g : Nat → Nat} (hv : VS g) (h : ∀ k, k < 4 → M 32 k = nI (g k)) : ∃ o, xt_X9_lay (nI (g 4)) (nI (g 5)) (nI (g 6)) (nI (g 7)) M = some o ∧ MS o g := by
  obtain ⟨o, o1, o2, _⟩ := lay_ok (m := M) (g := g) (B := g 3) (w := g 4) (f := g 5) (fun k hk => h k (by omega)) (h 3 (by omega)) hv.l hv.h
  refine ⟨o, o1, fun k hk => ?_⟩
  rw [o2 k hk]
  have lh := hv.lh
  have e : ls g (g 3) (g 4) (g 5) (g 6) (g 7) k = g k := by
    unfold ls
    by_cases k3 : k = 3
    · rw [if_pos k3, k3]
    · rw [if_neg k3]
      by_cases k4 : k = 4
      · rw [if_pos k4, k4]
      · rw [if_neg k4]
        by_cases k5 : k = 5
        · rw [if_pos k5, k5]
        · rw [if_neg k5]
          by_cases k6 : k = 6
          · rw [if_pos k6, k6]; omega
          · rw [if_neg k6]
            by_cases k7 : k = 7
            · rw [if_pos k7, k7]; omega
            · rw [if_neg k7]
  rw [e]
theorem line_j {m h m' : Mem} {g : Nat → Nat} {N : Nat} (hN : N ≤ 60) (hb : ∀ s B, VC s B → Bd s B) (hg : GE m) (hgh : GE h) (hp : PE m') (hv : VS g) : ∀ fuel t (gt : Nat → Nat) (mM mM' : Mem), t ≤ N → N - t < fuel → VS gt → (∀ k, k < 4 → gt k = g k) → CE mM → StC (mM 22) gt → MS mM' gt → ME mM' → R31 mM' m' →
    ∃ a o o', xt_X8_line_l27 (nI N) h (fun (m_6 : Mem) => (Option.bind (xt_X2_caught (m_6 22) m) (fun (o_7 : Int32) => (if o_7 = 0 then (Option.bind (xt_X8_numberNow (m_6 22) m) (fun (o_8 : Int32) => (some (o_8, (mgs m [9, 10, 11, 12, 22] m_6))))) else (some ((-6 : Int32), (mgs m [9, 10, 11, 12, 22] m_6))))))) fuel (nI t) mM = some (a, o) ∧
      xt_X9_line_l48 (nI N) (nI (g 4)) (nI (g 5)) (nI (g 6)) (nI (g 7)) m' (fun (v6_4 : Int32) (m_5 : Mem) => (if v6_4 < (nI N) then (Option.bind (xt_X9_lay (nI (g 4)) (nI (g 5)) (nI (g 6)) (nI (g 7)) (mgs m' [31, 32] m_5)) (fun (o_6 : Mem) => (some ((-6 : Int32), (mgs (mgs m' [31, 38, 39, 40, 41, 42, 43, 44] m_5) [32] o_6))))) else (Option.bind (xt_X9_isCaught (mgs m' [31, 32, 38, 39, 40, 41, 42, 43, 44] m_5)) (fun (o_7 : Int32 × Mem) => (if o_7.1 = 0 then (Option.bind (xt_X9_numberNow (mgs (mgs m' [31] o_7.2) [32] m_5)) (fun (o_8 : Int32) => (Option.bind (xt_X9_lay (nI (g 4)) (nI (g 5)) (nI (g 6)) (nI (g 7)) (mgs (mgs m' [31] o_7.2) [32] m_5)) (fun (o_9 : Mem) => (some (o_8, (mgs (mgs m' [31, 38, 39, 40, 41, 42, 43, 44] o_7.2) [32] o_9))))))) else (Option.bind (xt_X9_lay (nI (g 4)) (nI (g 5)) (nI (g 6)) (nI (g 7)) (mgs (mgs m' [31] o_7.2) [32] m_5)) (fun (o_10 : Mem) => (some ((-6 : Int32), (mgs (mgs m' [31, 38, 39, 40, 41, 42, 43, 44] o_7.2) [32] o_10)))))))))) fuel (nI t) mM' = some (a, o') ∧ CE o ∧ ME o' ∧ MS o' g ∧ R31 o' m' := by
  intro fuel
  induction fuel with
  | zero => intro t gt mM mM' _ hh; omega
  | succ fuel ih =>
    intro t gt mM mM' ht hf hvt hk4 hce hst hms hme hr
    rw [xt_X8_line_l27, xt_X9_line_l48]
    have p1 : PE (mgs m' [31, 32, 38, 39, 40, 41, 42, 43, 44] mM') := hp.c rfl rfl
    have s1 : MS (mgs m' [31, 32, 38, 39, 40, 41, 42, 43, 44] mM') gt := hms.c rfl
    have e1 : ME (mgs m' [31, 32, 38, 39, 40, 41, 42, 43, 44] mM') := hme.c2 rfl rfl rfl rfl rfl rfl rfl rfl
    have h32 : ∀ k, k < 4 → mM' 32 k = nI (g k) := fun k hk => by rw [hms k (by omega), hk4 k hk]
    by_cases c : t = N
    · have le : nI N ≤ nI t := by rw [c]; exact Int32.le_refl _
      rw [if_pos le, if_pos le]
      rw [if_neg (show ¬ nI t < nI N by rw [c, nI_ltI (by omega) (by omega)]; omega)]
      have hst' : StC ((mgs h [9, 10, 11, 12, 22] mM) 22) gt := hst
      obtain ⟨o, o1, o2, o3⟩ := mcaught_ok (m := mgs m' [31, 32, 38, 39, 40, 41, 42, 43, 44] (mgs m' [31, 32, 38, 39, 40, 41, 42, 43, 44] mM')) (hp.c rfl rfl) (hms.c rfl) hvt (hme.c2 rfl rfl rfl rfl rfl rfl rfl rfl) hb
      rw [caught_ok hg hst' hvt, Option.bind_some, o1, Option.bind_some]
      obtain ⟨oL, l1, l2⟩ := layb (M := mgs (mgs m' [31] o) [32] (mgs m' [31, 32, 38, 39, 40, 41, 42, 43, 44] mM')) hv (fun k hk => h32 k hk)
      have out : CE (mgs m [9, 10, 11, 12, 22] (mgs h [9, 10, 11, 12, 22] mM)) ∧ ME (mgs (mgs m' [31, 38, 39, 40, 41, 42, 43, 44] o) [32] oL) ∧ MS (mgs (mgs m' [31, 38, 39, 40, 41, 42, 43, 44] o) [32] oL) g ∧ R31 (mgs (mgs m' [31, 38, 39, 40, 41, 42, 43, 44] o) [32] oL) m' := by
        refine ⟨hce.c rfl rfl, (MW_ME hvt o2).c2 rfl rfl rfl rfl rfl rfl rfl rfl, l2.c rfl, fun k a b c d => ?_⟩
        show o 31 k = _
        rw [o3.2 k a b]
        exact hr k a b c d
      cases ec : cau gt
      · rw [if_pos (show bI false = 0 by decide), if_pos (show bI false = 0 by decide), cnumNow_ok hg hst' hvt, Option.bind_some, numberNow_ok (m := mgs (mgs m' [31] o) [32] (mgs m' [31, 32, 38, 39, 40, 41, 42, 43, 44] mM')) (hms.c rfl) hvt, Option.bind_some, l1, Option.bind_some]
        exact ⟨_, _, _, rfl, rfl, out⟩
      · rw [if_neg (show ¬ bI true = 0 by decide), if_neg (show ¬ bI true = 0 by decide), l1, Option.bind_some]
        exact ⟨_, _, _, rfl, rfl, out⟩
    · have lt : t < N := by omega
      have nle : ¬ nI N ≤ nI t := by rw [ble _ _ (by omega) (by omega)]; omega
      rw [if_neg nle, if_neg nle]
      obtain ⟨oB, b1, b2, b3⟩ := bestMove_ok (m := mgs h [9, 10, 11, 12] mM) (hgh.mgs (ngr (by decide))) (hce.c rfl rfl) hst hvt hb
      obtain ⟨oF, f1, f2, f3, f4, f5, f6⟩ := findBest_ok p1 s1 hvt e1 hb
      have f5' : R31 oF m' := fun k a b c d => (f5 k a b c d).trans (hr k a b c d)
      rw [b1, Option.bind_some, f1, Option.bind_some]
      dsimp only
      have h256 : ∀ k, best gt = some k → k < 256 := fun k hk => (best_lt hvt hk).1
      obtain ⟨g1, g2⟩ := fromOf_ok h256
      have z := bC_m6 h256
      cases e : best gt with
      | none =>
        rw [e] at z
        rw [if_pos (z.mpr rfl), if_pos (show bI (none : Option Nat).isSome = 0 by decide), if_pos (show nI t < nI N by rw [nI_ltI (by omega) (by omega)]; omega)]
        obtain ⟨oL, l1, l2⟩ := layb (M := mgs m' [31, 32] (mgs (mgs m' [31, 38, 39, 40, 41, 42, 43, 44] oF) [32] mM')) hv (fun k hk => h32 k hk)
        rw [l1, Option.bind_some]
        refine ⟨_, _, _, rfl, rfl, b2.c rfl rfl, f2.c2 rfl rfl rfl rfl rfl rfl rfl rfl, l2.c rfl, fun k a b c d => f5' k a b c d⟩
      | some k =>
        obtain ⟨hk, hl⟩ := best_lt hvt e
        rw [e] at z g1 g2 f3 f4
        have f3' : oF 31 17 = nI (k / 16) := f3
        have f4' : oF 31 18 = nI (k % 16) := f4
        rw [if_neg (fun q => by cases z.mp q), g1, g2, Option.bind_some, Option.bind_some, if_neg (show ¬ bI (some k).isSome = 0 from (by decide : ¬ bI true = 0)), f3', f4']
        have ha : k / 16 < 16 := by omega
        have hb16 : k % 16 < 16 := by omega
        show ∃ a o o', (Option.bind (xt_X2_make (nI (k / 16)) (nI (k % 16)) (mM 22)) _) = some (a, o) ∧ _
        obtain ⟨c', c1, c2⟩ := make_ok hst hvt ha hb16
        obtain ⟨oM, m1, m2, m3, m4, m5⟩ := mmake_ok (m := mgs (mgs m' [31, 38, 39, 40, 41, 42, 43, 44] oF) [32] mM') (hp.c rfl rfl) (hms.c rfl) hvt (f2.c2 rfl rfl rfl rfl rfl rfl rfl rfl) hb ha hb16 hl
        rw [c1, Option.bind_some, m1, Option.bind_some, nI_1]
        obtain ⟨k0, k3, kk0, kk1, kk2⟩ := mk_s gt (k / 16) (k % 16)
        refine ih (t + 1) (mk gt (k / 16) (k % 16)) _ _ (by omega) (by omega) (mk_VS hvt hb16 hl) (fun j hj => ?_) (b2.c rfl rfl) c2 (m3.c rfl) ((MW_ME (mk_VS hvt hb16 hl) m2).c2 rfl rfl rfl rfl rfl rfl rfl rfl) (fun j a b c d => ?_)
        · rw [← hk4 j hj]
          have cs : j = 0 ∨ j = 1 ∨ j = 2 ∨ j = 3 := by omega
          rcases cs with q | q | q | q <;> rw [q] <;> assumption
        · show oM 31 j = _
          rw [m4 j a b]
          exact f5' j a b c d
theorem line_op {m m' : Mem} {g : Nat → Nat} (hb : ∀ s B, VC s B → Bd s B) (hg : GE m) (hp : PE m') (hv : VS g) (hc : StC (m 21) g) (hm : MS m' g) (hce : CE m) (hme : ME m') (x1 : Int32) :
    ∃ a o o', xt_X8_line x1 m = some (a, o) ∧ xt_X9_line x1 m' = some (a, o') ∧ CE o ∧ ME o' ∧ MS o' g ∧ R31 o' m' := by
  unfold xt_X8_line xt_X9_line
  have v4 : vp_in (4 : Int32) 8 := by unfold vp_in; decide
  have v5 : vp_in (5 : Int32) 8 := by unfold vp_in; decide
  have v6 : vp_in (6 : Int32) 8 := by unfold vp_in; decide
  have v7 : vp_in (7 : Int32) 8 := by unfold vp_in; decide
  by_cases c0 : x1 < 1
  · have q : xt_X9_in x1 (1 : Int32) (60 : Int32) = some 0 := by
      unfold xt_X9_in
      rw [if_pos c0]
    rw [if_pos c0, q]
    exact ⟨_, _, _, rfl, rfl, hce, hme, hm, R31.r _⟩
  rw [if_neg c0]
  have h0 : ¬ x1 < 0 := fun z => c0 (Int32.lt_trans z (by decide))
  obtain ⟨N, N1, N2⟩ := nI_of h0
  by_cases c6 : x1 ≤ 60
  · have q : xt_X9_in x1 (1 : Int32) (60 : Int32) = some 1 := by
      unfold xt_X9_in
      rw [if_neg c0, if_neg (fun z => by
        rw [N2] at c6 z
        rw [lit 60, nI_leI (by omega) (by omega)] at c6
        rw [lit 60, nI_ltI (by omega) (by omega)] at z
        omega)]
    have hN : N ≤ 60 := by
      rw [N2, lit 60, nI_leI (by omega) (by omega)] at c6
      exact c6
    obtain ⟨t, t1, t2, _⟩ := take_ok (m 22) hc
    rw [if_pos c6, q, t1, Option.bind_some, Option.bind_some, if_neg (show ¬ (1 : Int32) = 0 by decide), xgd_in v4, xgd_in v5, xgd_in v6, xgd_in v7, tc4, tc5, tc6, tc7, hm 4 (by omega), hm 5 (by omega), hm 6 (by omega), hm 7 (by omega), N2]
    exact line_j (m := m) (h := mset m 22 t) (m' := m') hN hb hg (hg.mset (by omega)) hp hv 10000 0 g (mset m 22 t) m' (by omega) (by omega) hv (fun _ _ => rfl) (hce.c (mset_n _ _ (by omega)) (mset_n _ _ (by omega))) (by rw [mset_s]; exact t2) hm hme (R31.r _)
  · have q : xt_X9_in x1 (1 : Int32) (60 : Int32) = some 0 := by
      unfold xt_X9_in
      rw [if_neg c0, if_pos (by
        rw [N2] at c6 ⊢
        rw [lit 60, nI_leI (by omega) (by omega)] at c6
        rw [lit 60, nI_ltI (by omega) (by omega)]
        omega)]
    rw [if_neg c6, q]
    exact ⟨_, _, _, rfl, rfl, hce, hme, hm, R31.r _⟩
