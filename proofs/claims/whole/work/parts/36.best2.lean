/-! ===== the hunters' best move ===== -/
def vH (w : Nat) : Int32 := if w = 0 then -1 else vL (w - 1)
def okW (w : Nat) : Prop := w = 0 ∨ (w - 1 < 60 ∨ w - 1 = 1000)
theorem okW_hw {g : Nat → Nat} {a t : Nat} : okW (hw g a t) := by
  unfold hw okW
  by_cases c : t = g 5
  · rw [if_pos c]; exact Or.inl rfl
  · rw [if_neg c]
    have := od_lt (s := sOf g) (B := g 3) (n := hnN g a t)
    omega
theorem vL_pos {x : Nat} (hx : x < 60 ∨ x = 1000) : 0 ≤ vL x := by
  unfold vL
  by_cases c : x = 1000
  · rw [if_pos c]; decide
  · rw [if_neg c]; exact nI_pos' (by omega)
theorem vL_top {x : Nat} (hx : x < 60 ∨ x = 1000) : vL x ≤ 1000000 := by
  unfold vL
  by_cases c : x = 1000
  · rw [if_pos c]; exact Int32.le_refl _
  · rw [if_neg c, lit 1000000, ble _ _ (by omega) (by omega)]; omega
theorem vH_le {x y : Nat} (hx : okW x) (hy : okW y) : vH x ≤ vH y ↔ x ≤ y := by
  unfold vH
  by_cases c : x = 0 <;> by_cases c2 : y = 0
  · rw [if_pos c, if_pos c2]; exact ⟨fun _ => by omega, fun _ => Int32.le_refl _⟩
  · rw [if_pos c, if_neg c2]
    have : y - 1 < 60 ∨ y - 1 = 1000 := by unfold okW at hy; omega
    exact ⟨fun _ => by omega, fun _ => Int32.le_trans (show (-1 : Int32) ≤ 0 by decide) (vL_pos this)⟩
  · rw [if_neg c, if_pos c2]
    have : x - 1 < 60 ∨ x - 1 = 1000 := by unfold okW at hx; omega
    exact ⟨fun z => absurd (Int32.le_trans (vL_pos this) z) (by decide), fun z => by omega⟩
  · rw [if_neg c, if_neg c2, vL_le (by unfold okW at hx; omega) (by unfold okW at hy; omega)]; omega
theorem vH_top {x : Nat} (hx : okW x) : ¬ (1000001 : Int32) ≤ vH x := by
  unfold vH
  by_cases c : x = 0
  · rw [if_pos c]; decide
  · rw [if_neg c]
    intro z
    exact absurd (Int32.le_trans z (vL_top (show x - 1 < 60 ∨ x - 1 = 1000 by unfold okW at hx; omega))) (by decide)
theorem worthOf_ok {m : Mem} {c : Nat → Int32} {g : Nat → Nat} (hg : GE m) (hc : StC c g) (hv : VS g) (hd : DE (sOf g) (g 3) m) {a t : Nat} (ha : a = g 6 ∨ a = g 7) (ht : t < 16) (hto : t ≠ oth g a) : xt_X2_worthOf (nI a) (nI t) c m = some (vH (hw g a t)) := by
  unfold xt_X2_worthOf
  have hl := hv.l
  have hh := hv.h
  have hf := hv.f
  have hlh := hv.lh
  rw [hc.2.2.2.1, hc.2.2.2.2.1, hc.2.2.2.2.2]
  have e5 : nI t = nI (g 5) ↔ t = g 5 := nI_eq (by omega) (by omega)
  have e6 : nI a = nI (g 6) ↔ a = g 6 := nI_eq (by omega) (by omega)
  have fin : ∀ o, o < 16 → oth g a = o → (if nI t = nI (g 5) then (some (-1 : Int32)) else (Option.bind (xt_X2_lengthOf (1 : Int32) (nI (g 5)) (nI t) (nI o) m) (fun (o_2 : Int32) => (some o_2)))) = some (vH (hw g a t)) := by
    intro o ho e
    unfold vH hw
    by_cases c5 : t = g 5
    · rw [if_pos (e5.mpr c5), if_pos c5, if_pos rfl]
    · rw [if_neg (mt e5.mp c5), if_neg c5, lit 1, lengthOf_ok hg hd (by omega) hf ht ho (by rw [← e]; exact hto), Option.bind_some, if_neg (by omega), cL_v]
      unfold hnN
      rw [e, show 1 + od (Dn (sOf g) (g 3) (2048 + 128 * g 5 + prN t o)) - 1 = od (Dn (sOf g) (g 3) (2048 + 128 * g 5 + prN t o)) by omega]
  by_cases c6 : a = g 6
  · rw [if_pos (e6.mpr c6)]
    exact fin (g 7) hh (if_pos c6)
  · rw [if_neg (mt e6.mp c6)]
    exact fin (g 6) hl (if_neg c6)
def SB (g : Nat → Nat) (k : Nat) (v2 v3 : Int32) : Prop := v2 = bC (bst (okM g) (wM g) k) ∧ match bst (okM g) (wM g) k with
  | none => v3 = 1000001
  | some j => v3 = vH (wM g j)
theorem hunt45 {m : Mem} {c : Nat → Int32} {g : Nat → Nat} (hg : GE m) (hc : StC c g) (hv : VS g) (hd : DE (sOf g) (g 3) m) (h1 : ¬ g 4 = 1) (hca : cau g = false) {a : Nat} (ha : a = g 6 ∨ a = g 7) {x : Int32} (hx : msk x (hnM g a (oth g a))) (x4 : Int32) (k : Int32 → Int32 → Option Int32) {v2 v3 : Int32} (h0 : SB g (16 * a) v2 v3) :
    ∃ w2 w3, SB g (16 * a + 16) w2 w3 ∧ xt_X2_bestOfHunters_l45 x4 (nI a) x c m k 10000 v2 v3 (0 : Int32) = k w2 w3 := by
  have hl := hv.l
  have hh := hv.h
  have ha16 : a < 16 := by omega
  have wk : ∀ k, wM g k = hw g (k / 16) (k % 16) := fun k => if_neg h1
  have key := lup (fun n (q : Int32 × Int32) v => xt_X2_bestOfHunters_l45 x4 (nI a) x c m k n q.1 q.2 v) (fun q => k q.1 q.2) 16
    (fun i q => SB g (16 * a + i) q.1 q.2)
    (fun n q _ => by
      show xt_X2_bestOfHunters_l45 _ _ _ _ _ _ (n + 1) q.1 q.2 (nI 16) = _
      rw [xt_X2_bestOfHunters_l45, if_pos (show (16 : Int32) ≤ nI 16 by decide)])
    (fun n i q hi hI => by
      obtain ⟨I1, I2⟩ := hI
      show ∃ s', _ ∧ xt_X2_bestOfHunters_l45 _ _ _ _ _ _ (n + 1) q.1 q.2 (nI i) = _
      rw [xt_X2_bestOfHunters_l45, lit 16, if_neg (by rw [ble _ _ (by omega) (by omega)]; omega), nI_1]
      have hok := okM_hunt h1 hca ha ha16 hi
      have hb : bst (okM g) (wM g) (16 * a + (i + 1)) = if okM g (16 * a + i) then (match bst (okM g) (wM g) (16 * a + i) with
        | none => some (16 * a + i)
        | some j => if wM g (16 * a + i) < wM g j then some (16 * a + i) else some j) else bst (okM g) (wM g) (16 * a + i) := rfl
      rw [hok] at hb
      unfold SB
      cases cf : hnM g a (oth g a) i
      · rw [if_pos ((hx.t0 hi).mpr cf)]
        rw [cf, if_neg (by decide)] at hb
        refine ⟨q, ⟨by rw [hb]; exact I1, by rw [hb]; exact I2⟩, rfl⟩
      · have hne : i ≠ oth g a := by
          unfold hnM at cf
          rw [Bool.and_eq_true, Bool.and_eq_true, decide_eq_true_eq] at cf
          exact cf.2.1
        rw [if_neg (fun z => by rw [(hx.t0 hi).mp z] at cf; cases cf), worthOf_ok hg hc hv hd ha hi hne, Option.bind_some, Option.bind_some, pk_mul, nI_add]
        rw [cf, if_pos rfl] at hb
        have hk : wM g (16 * a + i) = hw g a i := by rw [wk, show (16 * a + i) % 16 = i by omega, show (16 * a + i) / 16 = a by omega]
        have new : ∀ (h : bst (okM g) (wM g) (16 * a + (i + 1)) = some (16 * a + i)), (nI (16 * a + i) = bC (bst (okM g) (wM g) (16 * a + (i + 1))) ∧ (match bst (okM g) (wM g) (16 * a + (i + 1)) with
            | none => vH (hw g a i) = 1000001
            | some j => vH (hw g a i) = vH (wM g j))) := by
          intro h
          rw [h]
          refine ⟨rfl, ?_⟩
          dsimp only
          rw [hk]
        cases e : bst (okM g) (wM g) (16 * a + i) with
        | none =>
          rw [e] at hb I2
          dsimp only at hb I2
          rw [I2, if_neg (vH_top okW_hw)]
          exact ⟨(_, _), new hb, rfl⟩
        | some j =>
          rw [e] at hb I2
          dsimp only at hb I2
          have cmp : q.2 ≤ vH (hw g a i) ↔ ¬ wM g (16 * a + i) < wM g j := by
            rw [I2, vH_le (by rw [wk]; exact okW_hw) okW_hw, hk]; omega
          by_cases cc : wM g (16 * a + i) < wM g j
          · rw [if_neg (fun z => cmp.mp z cc)]
            rw [if_pos cc] at hb
            exact ⟨(_, _), new hb, rfl⟩
          · rw [if_pos (cmp.mpr cc)]
            rw [if_neg cc] at hb
            refine ⟨q, ⟨by rw [hb, I1, e], by rw [hb]; exact I2⟩, rfl⟩)
    10000 0 (v2, v3) (by omega) (by omega) h0
  obtain ⟨q, h2, h3⟩ := key
  exact ⟨q.1, q.2, h2, h3⟩
theorem SB_sk {g : Nat → Nat} {a b : Nat} {v2 v3 : Int32} (hab : a ≤ b) (h : ∀ j, a ≤ j → j < b → okM g j = false) (hs : SB g a v2 v3) : SB g b v2 v3 := by
  unfold SB
  rw [bst_skip hab h]; exact hs
theorem bestOfHunters_ok {m : Mem} {c : Nat → Int32} {g : Nat → Nat} (hg : GE m) (hc : StC c g) (hv : VS g) (hd : DE (sOf g) (g 3) m) (h1 : ¬ g 4 = 1) (hca : cau g = false) : xt_X2_bestOfHunters c m = some (bC (best g)) := by
  unfold xt_X2_bestOfHunters
  have hl := hv.l
  have hh := hv.h
  have hlh := hv.lh
  have hw4 := hv.2.2.1
  have ho6 : oth g (g 6) = g 7 := if_pos rfl
  have s2 : xt_X6_setting (2 : Int32) c = some (bI ((sOf g).testBit 2)) := setting_ok hc hv (k := 2) (by omega)
  obtain ⟨x6, p1, p2⟩ := hunterSteps_ok hg hc hv (a := g 6) (Or.inl rfl)
  obtain ⟨x7, r1, r2⟩ := hunterSteps_ok hg hc hv (a := g 7) (Or.inr rfl)
  have st0 : SB g (16 * g 6) (-6) 1000001 := by
    unfold SB
    rw [bst_none (fun j hj => okM_hunt2 h1 hca (by omega) (by omega))]
    exact ⟨rfl, rfl⟩
  rw [xt_X2_bestOfHunters_l9, if_neg (show ¬ (2 : Int32) ≤ 0 by decide), if_pos rfl, hc.2.2.2.2.1, p1, Option.bind_some]
  obtain ⟨a2, a3, a4, a5⟩ := hunt45 hg hc hv hd h1 hca (Or.inl rfl) p2 (0 : Int32) (fun (v2_7 : Int32) (v3_8 : Int32) => (xt_X2_bestOfHunters_l9 c m (fun (v2_9 : Int32) (v3_10 : Int32) => (Option.bind (xt_X6_setting (2 : Int32) c) (fun (o_11 : Int32) => (if o_11 = (1 : Int32) then (Option.bind (xt_X2_worthOf (nI (g 6)) (nI (g 6)) c m) (fun (o_12 : Int32) => (if v3_10 ≤ o_12 then (some v2_9) else (some (((16 : Int32) * (nI (g 6))) + (nI (g 6))))))) else (some v2_9))))) 9999 v2_7 v3_8 ((0 : Int32) + (1 : Int32)))) st0
  rw [a5]
  have st1 : SB g (16 * g 7) a2 a3 := SB_sk (by omega) (fun j j1 j2 => okM_hunt2 h1 hca (by omega) (by omega)) a4
  rw [xt_X2_bestOfHunters_l9, if_neg (show ¬ (2 : Int32) ≤ 0 + 1 by decide), if_neg (show ¬ (0 : Int32) + 1 = 0 by decide), hc.2.2.2.2.2, r1, Option.bind_some]
  obtain ⟨b2, b3, b4, b5⟩ := hunt45 hg hc hv hd h1 hca (Or.inr rfl) r2 ((0 : Int32) + 1) (fun (v2_4 : Int32) (v3_5 : Int32) => (xt_X2_bestOfHunters_l9 c m (fun (v2_9 : Int32) (v3_10 : Int32) => (Option.bind (xt_X6_setting (2 : Int32) c) (fun (o_11 : Int32) => (if o_11 = (1 : Int32) then (Option.bind (xt_X2_worthOf (nI (g 6)) (nI (g 6)) c m) (fun (o_12 : Int32) => (if v3_10 ≤ o_12 then (some v2_9) else (some (((16 : Int32) * (nI (g 6))) + (nI (g 6))))))) else (some v2_9))))) 9998 v2_4 v3_5 ((0 : Int32) + (1 : Int32) + (1 : Int32)))) st1
  rw [b5]
  have st2 : SB g 256 b2 b3 := SB_sk (by omega) (fun j j1 j2 => okM_hunt2 h1 hca (by omega) (by omega)) b4
  rw [xt_X2_bestOfHunters_l9, if_pos (show (2 : Int32) ≤ 0 + 1 + 1 by decide), s2, Option.bind_some, worthOf_ok hg hc hv hd (Or.inl rfl) hl (by rw [ho6]; omega), Option.bind_some]
  have hleg : legal g (g 6) (g 6) = (sOf g).testBit 2 := by
    unfold legal
    rw [hca, if_neg h1, if_pos rfl, decide_eq_true (rfl : g 6 = g 6)]; simp
  have wk : ∀ k, wM g k = hw g (k / 16) (k % 16) := fun k => if_neg h1
  obtain ⟨t1, t2⟩ := st2
  unfold best
  rw [hleg]
  cases e2 : (sOf g).testBit 2
  · rw [if_neg (show ¬ bI false = 1 by decide), if_neg (show ¬ (g 4 = 0 ∧ false = true) from fun z => by cases z.2), t1]
  · rw [if_pos (show bI true = 1 from rfl), if_pos (show g 4 = 0 ∧ true = true from ⟨by omega, rfl⟩)]
    have ep : (16 : Int32) * nI (g 6) + nI (g 6) = nI (17 * g 6) := by rw [lit 16, pk_mul, nI_add, show 16 * g 6 + g 6 = 17 * g 6 by omega]
    rw [ep]
    cases e : bst (okM g) (wM g) 256 with
    | none =>
      rw [e] at t2
      dsimp only at t2
      rw [t2, if_neg (vH_top okW_hw)]; rfl
    | some j =>
      rw [e] at t2 t1
      dsimp only at t2
      have cmp : b3 ≤ vH (hw g (g 6) (g 6)) ↔ ¬ hw g (g 6) (g 6) < wM g j := by
        rw [t2, vH_le (by rw [wk]; exact okW_hw) okW_hw]; omega
      dsimp only
      by_cases cc : hw g (g 6) (g 6) < wM g j
      · rw [if_neg (fun z => cmp.mp z cc), if_pos cc]; rfl
      · rw [if_pos (cmp.mpr cc), if_neg cc, t1]
theorem bestMove_ok {m : Mem} {c : Nat → Int32} {g : Nat → Nat} (hg : GE m) (hce : CE m) (hc : StC c g) (hv : VS g) (hb : ∀ s B, VC s B → Bd s B) : ∃ o, xt_X2_bestMove c m = some (bC (best g), o) ∧ CE o ∧ ∀ r, [9, 10, 11, 12].contains r = false → o r = m r := by
  unfold xt_X2_bestMove
  have hw4 := hv.2.2.1
  rw [caught_ok hg hc hv, Option.bind_some]
  cases ec : cau g
  · rw [if_pos (show bI false = 0 by decide)]
    obtain ⟨o, o1, o2, o3, o4⟩ := prepare_ok hg hce hc hv hb
    rw [o1, Option.bind_some, hc.2.2.1]
    have e1 : nI (g 4) = 1 ↔ g 4 = 1 := nI_eq (b := 1) (by omega) (by omega)
    have dA : DE (sOf g) (g 3) (mgs m [9, 10] o) := fun n hn => o3 n hn
    have gA : GE (mgs m [9, 10] o) := hg.mgs (ngr (by decide))
    have fr : ∀ r, [9, 10, 11, 12].contains r = false → (mgs m [9, 10, 11, 12] o) r = m r := fun r hr => mgs_o _ _ hr
    by_cases c1 : g 4 = 1
    · rw [if_pos (e1.mpr c1), bestOfFox_ok gA hc hv dA c1 ec, Option.bind_some]
      refine ⟨mgs m [9, 10, 11, 12] o, ?_, o2.c rfl rfl, fr⟩
      unfold best
      rw [if_neg (by omega)]
    · rw [if_neg (mt e1.mp c1), bestOfHunters_ok gA hc hv dA c1 ec, Option.bind_some]
      exact ⟨mgs m [9, 10, 11, 12] o, rfl, o2.c rfl rfl, fr⟩
  · rw [if_neg (show ¬ bI true = 0 by decide), best_cau ec]
    exact ⟨m, rfl, hce, fun _ _ => rfl⟩
def frI (o : Option Nat) : Int32 := match o with
  | none => -6
  | some k => nI (k / 16)
def toI (o : Option Nat) : Int32 := match o with
  | none => -6
  | some k => nI (k % 16)
theorem fromOf_ok {o : Option Nat} (h : ∀ k, o = some k → k < 256) : xt_X2_fromOf (bC o) = some (frI o) ∧ xt_X2_toOf (bC o) = some (toI o) := by
  unfold xt_X2_fromOf xt_X2_toOf
  cases o with
  | none => exact ⟨rfl, rfl⟩
  | some k =>
    have hk := h k rfl
    have p : (0 : Int32) ≤ bC (some k) := nI_pos' (by omega)
    refine ⟨?_, ?_⟩
    · rw [if_pos p]
      show some (nI k / nI 16) = _
      rw [pk_div (by omega) (by omega) (by omega)]; rfl
    · rw [if_pos p]
      show some (nI k - nI k / nI 16 * nI 16) = _
      rw [pk_rem (by omega) (by omega) (by omega)]; rfl
theorem bC_m6 {o : Option Nat} (h : ∀ k, o = some k → k < 256) : bC o = -6 ↔ o = none := by
  cases o with
  | none => exact ⟨fun _ => rfl, fun _ => rfl⟩
  | some k => exact ⟨fun z => absurd z (nI_m6 (by have := h k rfl; omega)), fun z => by cases z⟩
