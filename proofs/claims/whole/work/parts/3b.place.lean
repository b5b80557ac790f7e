/-! ===== making moves, laying positions, distances now ===== -/
theorem frOut {r x : Nat} {l : List Nat} (hr : l.contains r = false) (hx : l.contains x = true) : r ≠ x := fun e => by subst e; rw [hr] at hx; cases hx
theorem ME.c3 {m m' : Mem} (h : ME m) (e : ∀ r, r ≠ 32 → m' r = m r) : ME m' := h.c2 (by rw [e 31 (by omega)]) (by rw [e 31 (by omega)]) (e 38 (by omega)) (e 39 (by omega)) (e 40 (by omega)) (e 41 (by omega)) (e 42 (by omega)) (e 44 (by omega))
theorem mmake_ok {m : Mem} {g : Nat → Nat} (hp : PE m) (hs : MS m g) (hv : VS g) (hm : ME m) (hb : ∀ s B, VC s B → Bd s B) {a b : Nat} (ha : a < 16) (hb16 : b < 16) (hl : legal g a b = true) :
    ∃ o, xt_X9_make (nI a) (nI b) m = some (bI (cau (mk g a b)), o) ∧ MW (mk g a b) o ∧ MS o (mk g a b) ∧ (∀ k, k ≠ 12 → k ≠ 16 → o 31 k = m 31 k) ∧ ∀ r, [31, 32, 38, 39, 40, 41, 42, 43, 44].contains r = false → o r = m r := by
  have hv' := mk_VS hv hb16 hl
  have hlo := hv.l
  have hhi := hv.h
  have hlh := hv.lh
  have hw4 := hv.2.2.1
  obtain ⟨g', hg'⟩ : ∃ g', g' = mk g a b := ⟨_, rfl⟩
  rw [← hg'] at hv' ⊢
  have fin : ∀ m1 : Mem, MS m1 g' → (∀ r, r ≠ 32 → m1 r = m r) → ∃ o, (Option.bind (xt_X9_isCaught m1) (fun (o_7 : Int32 × Mem) => (if o_7.1 = 0 then (some ((0 : Int32), (mgs m1 [31, 38, 39, 40, 41, 42, 43, 44] o_7.2))) else (some ((1 : Int32), (mgs m1 [31, 38, 39, 40, 41, 42, 43, 44] o_7.2)))))) = some (bI (cau g'), o) ∧ MW g' o ∧ MS o g' ∧ (∀ k, k ≠ 12 → k ≠ 16 → o 31 k = m 31 k) ∧ ∀ r, [31, 32, 38, 39, 40, 41, 42, 43, 44].contains r = false → o r = m r := by
    intro m1 s1 f1
    obtain ⟨o, o1, o2, o3⟩ := mcaught_ok (hp.c (f1 36 (by omega)) (f1 37 (by omega))) s1 hv' (hm.c3 f1) hb
    rw [o1, Option.bind_some]
    have out : MW g' (mgs m1 [31, 38, 39, 40, 41, 42, 43, 44] o) ∧ MS (mgs m1 [31, 38, 39, 40, 41, 42, 43, 44] o) g' ∧ (∀ k, k ≠ 12 → k ≠ 16 → (mgs m1 [31, 38, 39, 40, 41, 42, 43, 44] o) 31 k = m 31 k) ∧ ∀ r, [31, 32, 38, 39, 40, 41, 42, 43, 44].contains r = false → (mgs m1 [31, 38, 39, 40, 41, 42, 43, 44] o) r = m r := by
      refine ⟨o2.w, s1.c (mgs_o _ _ (by decide)), fun k k1 k2 => ?_, fun r hr => ?_⟩
      · rw [o3.w.2 k k1 k2, f1 31 (by omega)]
      · have h32 : r ≠ 32 := frOut hr (by decide)
        have hr2 : [31, 38, 39, 40, 41, 42, 43, 44].contains r = false := by simp [frOut hr (show [31, 32, 38, 39, 40, 41, 42, 43, 44].contains 31 = true by decide), frOut hr (show [31, 32, 38, 39, 40, 41, 42, 43, 44].contains 38 = true by decide), frOut hr (show [31, 32, 38, 39, 40, 41, 42, 43, 44].contains 39 = true by decide), frOut hr (show [31, 32, 38, 39, 40, 41, 42, 43, 44].contains 40 = true by decide), frOut hr (show [31, 32, 38, 39, 40, 41, 42, 43, 44].contains 41 = true by decide), frOut hr (show [31, 32, 38, 39, 40, 41, 42, 43, 44].contains 42 = true by decide), frOut hr (show [31, 32, 38, 39, 40, 41, 42, 43, 44].contains 43 = true by decide), frOut hr (show [31, 32, 38, 39, 40, 41, 42, 43, 44].contains 44 = true by decide)]
        rw [mgs_o _ _ hr2, f1 r h32]
    dsimp only
    cases cau g'
    · rw [if_pos (show bI false = 0 by decide)]; exact ⟨_, rfl, out⟩
    · rw [if_neg (show ¬ bI true = 0 by decide)]; exact ⟨_, rfl, out⟩
  unfold xt_X9_make
  have v4 : vp_in (4 : Int32) 8 := by unfold vp_in; decide
  have v5 : vp_in (5 : Int32) 8 := by unfold vp_in; decide
  have v6 : vp_in (6 : Int32) 8 := by unfold vp_in; decide
  have v7 : vp_in (7 : Int32) 8 := by unfold vp_in; decide
  simp only [xgd_in v4, xgd_in v5, xgd_in v6, xgd_in v7, tc4, tc5, tc6, tc7]
  have e1 : m 32 4 = 1 ↔ g 4 = 1 := by rw [hs 4 (by omega)]; exact nI_eq (b := 1) (by omega) (by omega)
  have e6 : nI a = m 32 6 ↔ a = g 6 := by rw [hs 6 (by omega)]; exact nI_eq (by omega) (by omega)
  by_cases c1 : g 4 = 1
  · rw [if_pos (e1.mpr c1)]
    refine fin _ (fun k hk => ?_) (fun r hr => mset_n _ _ hr)
    rw [mset_s, hg']
    unfold mk
    rw [if_pos c1]
    by_cases k4 : k = 4
    · rw [k4, upd_s, if_pos rfl, upd_n _ _ (by omega), hs 4 (by omega), c1]; decide
    · rw [upd_n _ _ k4, if_neg k4]
      by_cases k5 : k = 5
      · rw [k5, upd_s, if_pos rfl]
      · rw [upd_n _ _ k5, if_neg k5, hs k hk]
  · have g0 : g 4 = 0 := by omega
    rw [if_neg (mt e1.mp c1)]
    have fin2 : ∀ o', o' < 16 → oth g a = o' → ∀ m1 : Mem, m1 = mset m 32 (upd (upd (upd (m 32) 6 (nI (min b o'))) 7 (nI (max b o'))) 4 ((1 : Int32) - ((upd (upd (m 32) 6 (nI (min b o'))) 7 (nI (max b o'))) 4))) → MS m1 g' ∧ (∀ r, r ≠ 32 → m1 r = m r) := by
      intro o' ho e m1 hm1
      subst hm1
      refine ⟨fun k hk => ?_, fun r hr => mset_n _ _ hr⟩
      rw [mset_s, hg']
      unfold mk
      rw [if_neg c1, e]
      by_cases k4 : k = 4
      · rw [k4, upd_s, if_pos rfl, upd_n _ _ (by omega), upd_n _ _ (by omega), hs 4 (by omega), g0]; decide
      · rw [upd_n _ _ k4, if_neg k4]
        by_cases k7 : k = 7
        · rw [k7, upd_s, if_neg (by omega), if_pos rfl]
        · rw [upd_n _ _ k7]
          by_cases k6 : k = 6
          · rw [k6, upd_s, if_pos rfl]
          · rw [upd_n _ _ k6, if_neg k6, if_neg k7, hs k hk]
    by_cases c6 : a = g 6
    · rw [if_pos (e6.mpr c6), hs 7 (by omega), lesser_ok (by omega) (by omega), Option.bind_some, greater_ok (by omega) (by omega), Option.bind_some]
      obtain ⟨q1, q2⟩ := fin2 (g 7) hhi (if_pos c6) _ rfl
      exact fin _ q1 q2
    · rw [if_neg (mt e6.mp c6), hs 6 (by omega), lesser_ok (by omega) (by omega), Option.bind_some, greater_ok (by omega) (by omega), Option.bind_some]
      obtain ⟨q1, q2⟩ := fin2 (g 6) hlo (if_neg c6) _ rfl
      exact fin _ q1 q2
/-- the state that a position laid makes -/
def ls (g : Nat → Nat) (B w f a b : Nat) : Nat → Nat := fun k => if k = 3 then B else if k = 4 then w else if k = 5 then f else if k = 6 then min a b else if k = 7 then max a b else g k
theorem ls_s (g : Nat → Nat) (B w f a b : Nat) : sOf (ls g B w f a b) = sOf g := rfl
theorem ls_VS {g : Nat → Nat} (hv : VS g) {B w f a b : Nat} (hB : B < 65536) (hpc : pcB B ≤ 6) (hw : w < 2) (hf : f < 16) (ha : a < 16) (hb : b < 16) (h1 : f ≠ a) (h2 : f ≠ b) (h3 : a ≠ b) (k1 : bfr B f = true) (k2 : bfr B a = true) (k3 : bfr B b = true) : VS (ls g B w f a b) := by
  refine ⟨hv.1, ⟨hv.2.1.1, hB, hpc⟩, hw, hf, ⟨?_, ?_⟩, ⟨k1, ?_, ?_⟩, fun _ => ⟨?_, ?_⟩⟩
  · show min a b < max a b; omega
  · show max a b < 16; omega
  · show bfr B (min a b) = true
    rcases Nat.le_total a b with z | z
    · rw [Nat.min_eq_left z]; exact k2
    · rw [Nat.min_eq_right z]; exact k3
  · show bfr B (max a b) = true
    rcases Nat.le_total a b with z | z
    · rw [Nat.max_eq_right z]; exact k3
    · rw [Nat.max_eq_left z]; exact k2
  · show f ≠ min a b; omega
  · show f ≠ max a b; omega
theorem lay_ok {m : Mem} {g : Nat → Nat} (h : ∀ k, k < 3 → m 32 k = nI (g k)) {B : Nat} (h3 : m 32 3 = nI B) {w f a b : Nat} (ha : a < 16) (hb : b < 16) : ∃ o, xt_X9_lay (nI w) (nI f) (nI a) (nI b) m = some o ∧ MS o (ls g B w f a b) ∧ ∀ r, r ≠ 32 → o r = m r := by
  unfold xt_X9_lay
  have v4 : vp_in (4 : Int32) 8 := by unfold vp_in; decide
  have v5 : vp_in (5 : Int32) 8 := by unfold vp_in; decide
  have v6 : vp_in (6 : Int32) 8 := by unfold vp_in; decide
  have v7 : vp_in (7 : Int32) 8 := by unfold vp_in; decide
  simp only [xgd_in v4, xgd_in v5, xgd_in v6, xgd_in v7, tc4, tc5, tc6, tc7]
  rw [lesser_ok (by omega) (by omega), Option.bind_some, greater_ok (by omega) (by omega), Option.bind_some]
  refine ⟨_, rfl, fun k hk => ?_, fun r hr => mset_n _ _ hr⟩
  rw [mset_s]
  unfold ls
  by_cases k7 : k = 7
  · rw [k7, upd_s]; rfl
  · rw [upd_n _ _ k7]
    by_cases k6 : k = 6
    · rw [k6, upd_s]; rfl
    · rw [upd_n _ _ k6]
      by_cases k5 : k = 5
      · rw [k5, upd_s]; rfl
      · rw [upd_n _ _ k5]
        by_cases k4 : k = 4
        · rw [k4, upd_s]; rfl
        · rw [upd_n _ _ k4, if_neg k4, if_neg k5, if_neg k6, if_neg k7]
          by_cases k3 : k = 3
          · rw [k3, if_pos rfl]; exact h3
          · rw [if_neg k3]; exact h k (by omega)
theorem cnumNow_ok {m : Mem} {c : Nat → Int32} {g : Nat → Nat} (hg : GE m) (hc : StC c g) (hv : VS g) : xt_X8_numberNow c m = some (nI (numG g)) := by
  unfold xt_X8_numberNow
  have hlh := hv.lh
  rw [hc.2.2.1, hc.2.2.2.1, hc.2.2.2.2.1, hc.2.2.2.2.2, numberOf_ok hg _ _ hv.l hv.h (by omega), Option.bind_some]
  rfl
def dNow (g : Nat → Nat) : Int32 := if cau g = true then 0 else dI (Dn (sOf g) (g 3) (numG g))
theorem distNow_ok {m : Mem} {g : Nat → Nat} (hg : GE m) (hce : CE m) (hc : StC (m 21) g) (hv : VS g) (hb : ∀ s B, VC s B → Bd s B) : ∃ o, xt_X8_distanceNow m = some (dNow g, o) ∧ CE o ∧ ∀ r, [9, 10, 11, 12].contains r = false → o r = m r := by
  unfold xt_X8_distanceNow
  rw [caught_ok hg hc hv, Option.bind_some]
  unfold dNow
  cases ec : cau g
  · rw [if_pos (show bI false = 0 by decide), if_neg (show ¬ false = true by decide)]
    obtain ⟨o, o1, o2, o3, o4⟩ := prepare_ok hg hce hc hv hb
    have hn := numG_lt hv
    rw [o1, Option.bind_some, cnumNow_ok hg hc hv, Option.bind_some, at_ok (m := mgs m [9, 10] o) (s := sOf g) (B := g 3) (fun n hn => o3 n hn) hn.1, Option.bind_some]
    exact ⟨mgs m [9, 10, 11, 12] o, rfl, o2.c rfl rfl, fun r hr => mgs_o _ _ hr⟩
  · rw [if_neg (show ¬ bI true = 0 by decide), if_pos rfl]
    exact ⟨m, rfl, hce, fun _ _ => rfl⟩
theorem mdistNow_ok {m : Mem} {g : Nat → Nat} (hp : PE m) (hs : MS m g) (hv : VS g) (hm : ME m) (hb : ∀ s B, VC s B → Bd s B) : ∃ o, xt_X9_distanceNow m = some (dNow g, o) ∧ MW g o ∧ Fr m o := by
  unfold xt_X9_distanceNow
  obtain ⟨o, o1, o2, o3⟩ := mcaught_ok hp hs hv hm hb
  rw [o1, Option.bind_some]
  unfold dNow
  dsimp only
  cases ec : cau g
  · have hn := numG_lt hv
    rw [if_pos (show bI false = 0 by decide), if_neg (show ¬ false = true by decide), numberNow_ok (m := mgs m [31] o) (hs.c rfl) hv, Option.bind_some, xgd_in (xin rfl hn.1 (by decide)), cl (by omega), o2.D _ hn.1]
    exact ⟨_, rfl, o2.w, o3.w⟩
  · rw [if_neg (show ¬ bI true = 0 by decide), if_pos rfl]
    exact ⟨_, rfl, o2.w, o3.w⟩
