/-! ===== the reference folds every position ===== -/
theorem madeBy_ok {m : Mem} {B : Nat} (hp : PE m) (hw : WE B m) {j n : Nat} (hj : j < (Wl B 8).length) (hn : n < 4096) (h1 : n % 128 < 120) : xt_X9_madeBy (nI j) (nI n) m = some (nI (imN ((Wl B 8).getD j 0) n)) := by
  have hl := lohi h1
  have hlen : (Wl B 8).length ≤ 8 := filt_len _ _
  have hf : n / 128 % 16 < 16 := Nat.mod_lt _ (by omega)
  have hgp := gp hp h1
  have ht := (W_in hj).1
  unfold xt_X9_madeBy
  rw [md128 hn, dv128 hn, md16 (show n / 128 < 4096 by omega)]
  simp only [xgd_in (xin (x := nI (n % 128)) rfl h1 (by decide)), cl (show n % 128 < 2 ^ 31 by omega), hgp.1, hgp.2]
  rw [lit 16, pk_mul, nI_add, nI_add, nI_add, xgd_in (xin rfl (by omega) (by decide)), xgd_in (xin rfl (by omega) (by decide)), xgd_in (xin rfl (by omega) (by decide)), cl (by omega), cl (by omega), cl (by omega), hw.2 j hj _ hf, hw.2 j hj _ (by omega), hw.2 j hj _ hl.2.1, lit 2048, pk_div (by omega) (by omega) (by omega), mnumberOf_ok _ _ (img_lt ht (by omega)) (img_lt ht hl.2.1) (img_ne ht (by omega) hl.2.1 (by omega)), Option.bind_some]
  rfl
def FLn (B : Nat) (m : Mem) (n : Nat) : Prop := (isPos B n = true → m 39 n = nI (lowA B n) ∧ m 40 n = nI (dct B n (Wl B 8).length)) ∧ (isPos B n = false → m 39 n = -6 ∧ m 40 n = 0)
theorem Win_lt {B n j : Nat} (hj : j < (Wl B 8).length) (hn : n < 4096) (h1 : n % 128 < 120) : imN ((Wl B 8).getD j 0) n < 4096 := (imN_parts (W_in hj).1 hn h1).1
theorem fold31 {m : Mem} {B : Nat} (hp : PE m) (hw : WE B m) {i n : Nat} (hi : i < (Wl B 8).length) (hn : n < 4096) (h1 : n % 128 < 120) (x2 x3 : Int32) (k : Int32 → Option Mem) :
    xt_X9_foldOne_l31 (nI n) x2 x3 (nI i) (nI (imN ((Wl B 8).getD i 0) n)) m k 10000 (1 : Int32) (0 : Int32) = k (bI ((List.range i).all fun j => !decide (imN ((Wl B 8).getD j 0) n = imN ((Wl B 8).getD i 0) n))) := by
  have hlen : (Wl B 8).length ≤ 8 := filt_len _ _
  have key := lup (fun a (q : Int32) v => xt_X9_foldOne_l31 (nI n) x2 x3 (nI i) (nI (imN ((Wl B 8).getD i 0) n)) m k a q v) k i
    (fun b q => q = bI ((List.range b).all fun j => !decide (imN ((Wl B 8).getD j 0) n = imN ((Wl B 8).getD i 0) n)))
    (fun a q _ => by
      show xt_X9_foldOne_l31 _ _ _ _ _ _ _ (a + 1) q (nI i) = _
      rw [xt_X9_foldOne_l31, if_pos (Int32.le_refl _)])
    (fun a b q hb hI => by
      show ∃ s', _ ∧ xt_X9_foldOne_l31 _ _ _ _ _ _ _ (a + 1) q (nI b) = _
      have l1 := Win_lt (B := B) (n := n) (j := b) (by omega) hn h1
      have l2 := Win_lt hi hn h1
      rw [xt_X9_foldOne_l31, if_neg (by rw [ble _ _ (by omega) (by omega)]; omega), madeBy_ok hp hw (by omega) hn h1, Option.bind_some, nI_1, List.range_succ, List.all_append, hI]
      by_cases c : imN ((Wl B 8).getD b 0) n = imN ((Wl B 8).getD i 0) n
      · rw [if_pos ((nI_eq (by omega) (by omega)).mpr c)]
        refine ⟨_, ?_, rfl⟩
        simp only [List.all_cons, List.all_nil, decide_eq_true c, Bool.not_true, Bool.false_and, Bool.and_false]
        cases ((List.range b).all fun j => !decide (imN ((Wl B 8).getD j 0) n = imN ((Wl B 8).getD i 0) n)) <;> rfl
      · rw [if_neg (mt (nI_eq (by omega) (by omega)).mp c)]
        refine ⟨_, ?_, rfl⟩
        simp only [List.all_cons, List.all_nil, decide_eq_false c, Bool.not_false, Bool.and_true]
        cases ((List.range b).all fun j => !decide (imN ((Wl B 8).getD j 0) n = imN ((Wl B 8).getD i 0) n)) <;> rfl)
    10000 0 (1 : Int32) (by omega) (by omega) rfl
  obtain ⟨q, e1, e2⟩ := key
  subst e1
  exact e2
theorem foldOne_ok {m : Mem} {B : Nat} (hp : PE m) (hw : WE B m) {n : Nat} (hn : n < 4096) (h1 : n % 128 < 120) : xt_X9_foldOne (nI n) m = some (mset (mset m 39 (upd (m 39) n (nI (lowA B n)))) 40 (upd (m 40) n (nI (dct B n (Wl B 8).length)))) := by
  unfold xt_X9_foldOne
  have hlen : (Wl B 8).length ≤ 8 := filt_len _ _
  have key := lup (fun a (q : Int32 × Int32) v => xt_X9_foldOne_l7 (nI n) m (fun (v2_6 : Int32) (v3_7 : Int32) => (xgd (nI n) 4096 (xgd (nI n) 4096 (some (mset (mset m 39 (upd (m 39) (nI n).toNatClampNeg v2_6)) 40 (upd (m 40) (nI n).toNatClampNeg v3_7)))))) a q.1 q.2 v) (fun q => (xgd (nI n) 4096 (xgd (nI n) 4096 (some (mset (mset m 39 (upd (m 39) (nI n).toNatClampNeg q.1)) 40 (upd (m 40) (nI n).toNatClampNeg q.2)))))) (Wl B 8).length
    (fun i q => q = (nI (minE (fun j => imN ((Wl B 8).getD j 0) n) n i), nI (dct B n i)))
    (fun a q _ => by
      show xt_X9_foldOne_l7 _ _ _ (a + 1) q.1 q.2 (nI _) = _
      rw [xt_X9_foldOne_l7, hw.1, if_pos (Int32.le_refl _)])
    (fun a i q hi hI => by
      show ∃ s', _ ∧ xt_X9_foldOne_l7 _ _ _ (a + 1) q.1 q.2 (nI i) = _
      have l1 := Win_lt hi hn h1
      have l2 := minE_le (fun j => imN ((Wl B 8).getD j 0) n) n i
      rw [xt_X9_foldOne_l7, hw.1, if_neg (by rw [ble _ _ (by omega) (by omega)]; omega), madeBy_ok hp hw hi hn h1, Option.bind_some, fold31 hp hw hi hn h1, hI, nI_1]
      refine ⟨_, rfl, ?_⟩
      dsimp only
      rw [lesser_ok (by omega) (by omega), Option.bind_some, Option.bind_some]
      show _ = xt_X9_foldOne_l7 (nI n) m _ a (nI (min _ _)) (nI (dct B n i + if (List.range i).all (fun j => !decide (imN ((Wl B 8).getD j 0) n = imN ((Wl B 8).getD i 0) n)) = true then 1 else 0)) (nI (i + 1))
      cases c : (List.range i).all (fun j => !decide (imN ((Wl B 8).getD j 0) n = imN ((Wl B 8).getD i 0) n))
      · rw [if_pos (show bI false = 0 by decide), if_neg (by decide), lit 0, nI_add]
      · rw [if_neg (show ¬ bI true = 0 by decide), if_pos rfl, nI_1])
    10000 0 (nI n, 0) (by omega) (by omega) rfl
  obtain ⟨q, e1, e2⟩ := key
  subst e1
  have e2' : xt_X9_foldOne_l7 (nI n) m _ 10000 (nI n) (0 : Int32) (0 : Int32) = _ := e2
  rw [e2']
  dsimp only
  rw [xgd_in (xin rfl hn (by decide)), xgd_in (xin rfl hn (by decide)), cl (by omega)]
  rfl
theorem WE.c {B : Nat} {m m' : Mem} (h : WE B m) (e1 : m' 31 = m 31) (e2 : m' 41 = m 41) : WE B m' := by unfold WE; rw [e1, e2]; exact h
theorem PE.c {m m' : Mem} (h : PE m) (e1 : m' 36 = m 36) (e2 : m' 37 = m 37) : PE m' := by unfold PE; rw [e1, e2]; exact h
theorem MA.c {m m' : Mem} {g : Nat → Nat} (h : MA m g) (e : m' 32 = m 32) : MA m' g := by unfold MA; rw [e]; exact h
theorem isPos_120 {B n : Nat} (h : isPos B n = true) : n % 128 < 120 := by
  rcases Nat.lt_or_ge (n % 128) 120 with z | z
  · exact z
  · rw [nopos120 z] at h; cases h
theorem fold_ok {m : Mem} {g : Nat → Nat} (hp : PE m) (ha : MA m g) (hB : g 3 < 65536) (hw : WE (g 3) m) : ∃ o, xt_X9_fold m = some o ∧ (∀ n, n < 4096 → FLn (g 3) o n) ∧ ∀ r, [39, 40].contains r = false → o r = m r := by
  unfold xt_X9_fold
  have key := lup (fun a (q : Mem) v => xt_X9_fold_l2 m (fun (m_3 : Mem) => (some (mgs m [39, 40] m_3))) a v q) (fun q => some (mgs m [39, 40] (mgs m [39, 40] q))) 4096
    (fun i q => ∀ n, n < i → FLn (g 3) q n)
    (fun a q _ => by
      show xt_X9_fold_l2 _ _ (a + 1) (nI 4096) q = _
      rw [xt_X9_fold_l2, if_pos (show (4096 : Int32) ≤ nI 4096 by decide)])
    (fun a i q hi hI => by
      show ∃ s', _ ∧ xt_X9_fold_l2 _ _ (a + 1) (nI i) q = _
      rw [xt_X9_fold_l2, lit 4096, if_neg (by rw [ble _ _ (by omega) (by omega)]; omega), xgd_in (xin rfl hi (by decide)), xgd_in (xin rfl hi (by decide)), misPosition_ok hp ha hB hi, Option.bind_some, cl (by omega), nI_1]
      have wr : ∀ (m1 : Mem) (x y : Int32), (m1 39 = upd (q 39) i x) → (m1 40 = upd (q 40) i y) → ((isPos (g 3) i = true → x = nI (lowA (g 3) i) ∧ y = nI (dct (g 3) i (Wl (g 3) 8).length)) ∧ (isPos (g 3) i = false → x = -6 ∧ y = 0)) → ∀ n, n < i + 1 → FLn (g 3) m1 n := by
        intro m1 x y e1 e2 h n hn
        unfold FLn
        rw [e1, e2]
        unfold upd
        by_cases c : n = i
        · rw [if_pos c, if_pos c, c]; exact h
        · rw [if_neg c, if_neg c]; exact hI n (by omega)
      cases c : isPos (g 3) i
      · rw [if_pos (show bI false = 0 by decide)]
        exact ⟨_, wr _ (-6) 0 rfl rfl ⟨fun h => (by rw [c] at h; cases h), fun _ => ⟨rfl, rfl⟩⟩, rfl⟩
      · rw [if_neg (show ¬ bI true = 0 by decide)]
        have h1 := isPos_120 c
        rw [foldOne_ok (m := mset (mset m 39 (upd (q 39) i (-6 : Int32))) 40 (upd (q 40) i (0 : Int32))) (B := g 3) hp hw hi h1, Option.bind_some]
        refine ⟨_, wr _ (nI (lowA (g 3) i)) (nI (dct (g 3) i (Wl (g 3) 8).length)) ?_ ?_ ⟨fun _ => ⟨rfl, rfl⟩, fun h => (by rw [c] at h; cases h)⟩, rfl⟩
        · funext x
          show upd (upd (q 39) i (-6)) i _ x = _
          unfold upd
          by_cases c2 : x = i
          · rw [if_pos c2, if_pos c2]
          · rw [if_neg c2, if_neg c2, if_neg c2]
        · funext x
          show upd (upd (q 40) i 0) i _ x = _
          unfold upd
          by_cases c2 : x = i
          · rw [if_pos c2, if_pos c2]
          · rw [if_neg c2, if_neg c2, if_neg c2])
    10000 0 m (by omega) (by omega) (fun n hn => absurd hn (by omega))
  obtain ⟨q, e1, e2⟩ := key
  exact ⟨_, e2, e1, fun r hr => mgs_o _ _ hr⟩
