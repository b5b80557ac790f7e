/-! ===== the reference's best move ===== -/
theorem MW.c2 {g : Nat → Nat} {m m' : Mem} (h : MW g m) (e12 : m' 31 12 = m 31 12) (e16 : m' 31 16 = m 31 16) (e38 : m' 38 = m 38) (e39 : m' 39 = m 39) (e40 : m' 40 = m 40) (e41 : m' 41 = m 41) (e42 : m' 42 = m 42) (e44 : m' 44 = m 44) : MW g m' := by
  unfold MW MD WE
  rw [e16, e44, e42, e12, e41]
  exact ⟨h.1, h.2.1, h.2.2.1.c e38 e39 e40, h.2.2.2.1, h.2.2.2.2⟩
theorem ME.c2 {m m' : Mem} (h : ME m) (e12 : m' 31 12 = m 31 12) (e16 : m' 31 16 = m 31 16) (e38 : m' 38 = m 38) (e39 : m' 39 = m 39) (e40 : m' 40 = m 40) (e41 : m' 41 = m 41) (e42 : m' 42 = m 42) (e44 : m' 44 = m 44) : ME m' := by
  rcases h with h | ⟨g, h1, h2⟩
  · exact Or.inl (by rw [e16]; exact h)
  · exact Or.inr ⟨g, h1, h2.c2 e12 e16 e38 e39 e40 e41 e42 e44⟩
theorem ME.w {h o : Mem} (hw : ME o) : ME (mgs h [31, 38, 39, 40, 41, 42, 43, 44] o) := hw.c2 rfl rfl rfl rfl rfl rfl rfl rfl
theorem MW_ME {g : Nat → Nat} {m : Mem} (hv : VS g) (h : MW g m) : ME m := Or.inr ⟨g, by
  intro k hk
  obtain ⟨h0, h1, h2⟩ := hv.1
  have h3 := hv.B
  have : k = 0 ∨ k = 1 ∨ k = 2 ∨ k = 3 := by omega
  rcases this with e | e | e | e <;> subst e <;> omega, h⟩
/-- what the search holds, below k -/
def QB (g : Nat → Nat) (hM : Mem) (k : Nat) (v1 : Int32) (mM : Mem) : Prop := ME mM ∧ (match bst (okM g) (wM g) k with
  | none => mM 31 17 = -6 ∧ mM 31 18 = -6
  | some j => mM 31 17 = nI (j / 16) ∧ mM 31 18 = nI (j % 16) ∧ v1 = mval (g 4) (wM g j)) ∧ ∀ k', k' ≠ 12 → k' ≠ 16 → k' ≠ 17 → k' ≠ 18 → mM 31 k' = hM 31 k'
theorem QB_same {g : Nat → Nat} {hM mM m' : Mem} {k k2 : Nat} {v1 : Int32} (h : QB g hM k v1 mM) (hb : bst (okM g) (wM g) k2 = bst (okM g) (wM g) k) (he : ME m') (e31 : ∀ k', k' ≠ 12 → k' ≠ 16 → m' 31 k' = mM 31 k') : QB g hM k2 v1 m' := by
  unfold QB
  rw [hb, e31 17 (by omega) (by omega), e31 18 (by omega) (by omega)]
  exact ⟨he, h.2.1, fun k' a b c d => by rw [e31 k' a b]; exact h.2.2 k' a b c d⟩
theorem QB_new {g : Nat → Nat} {hM mM m' : Mem} {k k2 : Nat} {v1 v2 : Int32} (h : QB g hM k v1 mM) {j : Nat} (hb : bst (okM g) (wM g) k2 = some j) (he : ME m') (e17 : m' 31 17 = nI (j / 16)) (e18 : m' 31 18 = nI (j % 16)) (ev : v2 = mval (g 4) (wM g j)) (e31 : ∀ k', k' ≠ 12 → k' ≠ 16 → k' ≠ 17 → k' ≠ 18 → m' 31 k' = mM 31 k') : QB g hM k2 v2 m' := by
  unfold QB
  rw [hb]
  exact ⟨he, ⟨e17, e18, ev⟩, fun k' a b c d => by rw [e31 k' a b c d]; exact h.2.2 k' a b c d⟩
theorem wM_at {g : Nat → Nat} {a t : Nat} (ht : t < 16) : wM g (16 * a + t) = wV g a t := by
  show wV g ((16 * a + t) / 16) ((16 * a + t) % 16) = _
  rw [show (16 * a + t) / 16 = a by omega, show (16 * a + t) % 16 = t by omega]
theorem find24 {g : Nat → Nat} {hM : Mem} (hp : PE hM) (hs : MS hM g) (hv : VS g) (hb : ∀ s B, VC s B → Bd s B) {a : Nat} (ha : a < 16) (k : Int32 → Mem → Option (Int32 × Mem)) {v1 : Int32} {m0 : Mem} (h0 : QB g hM (16 * a) v1 m0) :
    ∃ v1' m', QB g hM (16 * a + 16) v1' m' ∧ xt_X9_findBest_l24 (nI a) hM k 10000 v1 (0 : Int32) m0 = k v1' (mgs hM [31, 38, 39, 40, 41, 42, 43, 44] m') := by
  have key := lup (fun n (q : Int32 × Mem) v => xt_X9_findBest_l24 (nI a) hM k n q.1 v q.2) (fun q => k q.1 (mgs hM [31, 38, 39, 40, 41, 42, 43, 44] q.2)) 16
    (fun i q => QB g hM (16 * a + i) q.1 q.2)
    (fun n q _ => by
      show xt_X9_findBest_l24 _ _ _ (n + 1) q.1 (nI 16) q.2 = _
      rw [xt_X9_findBest_l24, if_pos (show (16 : Int32) ≤ nI 16 by decide)])
    (fun n i q hi hI => by
      show ∃ s', _ ∧ xt_X9_findBest_l24 _ _ _ (n + 1) q.1 (nI i) q.2 = _
      rw [xt_X9_findBest_l24, lit 16, if_neg (by rw [ble _ _ (by omega) (by omega)]; omega), nI_1]
      have hbs : bst (okM g) (wM g) (16 * a + (i + 1)) = if okM g (16 * a + i) then (match bst (okM g) (wM g) (16 * a + i) with
        | none => some (16 * a + i)
        | some j => if wM g (16 * a + i) < wM g j then some (16 * a + i) else some j) else bst (okM g) (wM g) (16 * a + i) := rfl
      have hok : okM g (16 * a + i) = (legal g a i && decide (a ≠ i)) := by
        unfold okM
        rw [show (16 * a + i) / 16 = a by omega, show (16 * a + i) % 16 = i by omega]
      have ei : nI a = nI i ↔ a = i := nI_eq (by omega) (by omega)
      by_cases c : a = i
      · rw [if_pos (ei.mpr c)]
        rw [hok, decide_eq_false (fun z => z c), Bool.and_false, if_neg (by decide)] at hbs
        exact ⟨(q.1, mgs hM [31, 38, 39, 40, 41, 42, 43, 44] q.2), QB_same hI hbs hI.1.w (fun _ _ _ => rfl), rfl⟩
      · rw [if_neg (mt ei.mp c)]
        rw [hok, decide_eq_true (show a ≠ i from c), Bool.and_true] at hbs
        obtain ⟨o, o1, o2, o3⟩ := misMove_ok (m := mgs hM [31, 38, 39, 40, 41, 42, 43, 44] q.2) (g := g) (hp.c (mgs_o _ _ (by decide)) (mgs_o _ _ (by decide))) (hs.c (mgs_o _ _ (by decide))) hv hI.1.w hb ha hi
        rw [o1, Option.bind_some]
        have f31 : ∀ k', k' ≠ 12 → k' ≠ 16 → o 31 k' = q.2 31 k' := fun k' z1 z2 => o3.2 k' z1 z2
        dsimp only
        cases cl1 : legal g a i
        · rw [if_pos (show bI false = 0 by decide)]
          rw [cl1, if_neg (by decide)] at hbs
          exact ⟨(q.1, mgs hM [31, 38, 39, 40, 41, 42, 43, 44] o), QB_same hI hbs (MW_ME hv o2).w f31, rfl⟩
        · rw [if_neg (show ¬ bI true = 0 by decide)]
          rw [cl1, if_pos rfl] at hbs
          have W1 : xt_X9_worth (nI a) (nI i) (mgs (mset hM 31 (upd (upd (o 31) 17 (nI a)) 18 (nI i))) [38] o) = some (mval (g 4) (wV g a i)) := mworth_ok (m := mgs (mset hM 31 (upd (upd (o 31) 17 (nI a)) 18 (nI i))) [38] o) (hs.c rfl) hv (fun n hn => o2.D n hn) ha hi cl1
          have W2 : xt_X9_worth (nI a) (nI i) (mgs hM [31, 38] o) = some (mval (g 4) (wV g a i)) := mworth_ok (m := mgs hM [31, 38] o) (hs.c rfl) hv (fun n hn => o2.D n hn) ha hi cl1
          rw [W1, W2, Option.bind_some, Option.bind_some]
          have f17 := f31 17 (by omega) (by omega)
          have new : bst (okM g) (wM g) (16 * a + (i + 1)) = some (16 * a + i) → QB g hM (16 * a + (i + 1)) (mval (g 4) (wV g a i)) (mgs (mset hM 31 (upd (upd (o 31) 17 (nI a)) 18 (nI i))) [38, 39, 40, 41, 42, 43, 44] o) := by
            intro h
            refine QB_new hI h ?_ ?_ ?_ ?_ ?_
            · refine (MW_ME hv o2).c2 ?_ ?_ rfl rfl rfl rfl rfl rfl
              · show upd (upd (o 31) 17 (nI a)) 18 (nI i) 12 = _
                rw [upd_n _ _ (by omega), upd_n _ _ (by omega)]
              · show upd (upd (o 31) 17 (nI a)) 18 (nI i) 16 = _
                rw [upd_n _ _ (by omega), upd_n _ _ (by omega)]
            · show upd (upd (o 31) 17 (nI a)) 18 (nI i) 17 = _
              rw [upd_n _ _ (by omega), upd_s, show (16 * a + i) / 16 = a by omega]
            · show upd (upd (o 31) 17 (nI a)) 18 (nI i) 18 = _
              rw [upd_s, show (16 * a + i) % 16 = i by omega]
            · rw [wM_at hi]
            · intro k' z1 z2 z3 z4
              show upd (upd (o 31) 17 (nI a)) 18 (nI i) k' = _
              rw [upd_n _ _ z4, upd_n _ _ z3]
              exact f31 k' z1 z2
          have hQ := hI.2.1
          cases e : bst (okM g) (wM g) (16 * a + i) with
          | none =>
            rw [e] at hbs hQ
            dsimp only at hbs hQ
            rw [if_pos (show o 31 17 < 0 by rw [f17, hQ.1]; decide)]
            exact ⟨(_, _), new hbs, rfl⟩
          | some j =>
            rw [e] at hbs hQ
            dsimp only at hbs hQ
            have hj := (bst_ok _ _ e).1
            rw [if_neg (show ¬ o 31 17 < 0 by rw [f17, hQ.1, lit 0, nI_ltI (by omega) (by omega)]; omega)]
            have wl := wV_le (g := g) (a := a) (t := i)
            have wl2 := wV_le (g := g) (a := j / 16) (t := j % 16)
            have cmp : q.1 ≤ mval (g 4) (wV g a i) ↔ ¬ wM g (16 * a + i) < wM g j := by
              rw [hQ.2.2, wM_at hi]
              show mval (g 4) (wV g (j / 16) (j % 16)) ≤ _ ↔ ¬ _ < wV g (j / 16) (j % 16)
              rw [mval_le wl2.1 wl.1 (fun z => ⟨wl2.2 z, wl.2 z⟩)]; omega
            by_cases cc : wM g (16 * a + i) < wM g j
            · rw [if_neg (fun z => cmp.mp z cc)]
              rw [if_pos cc] at hbs
              exact ⟨(_, _), new hbs, rfl⟩
            · rw [if_pos (cmp.mpr cc)]
              rw [if_neg cc] at hbs
              exact ⟨(q.1, mgs hM [31, 38, 39, 40, 41, 42, 43, 44] o), QB_same hI (by rw [hbs, e]) (MW_ME hv o2).w f31, rfl⟩)
    10000 0 (v1, m0) (by omega) (by omega) h0
  obtain ⟨q, h1, h2⟩ := key
  exact ⟨q.1, q.2, h1, h2⟩
