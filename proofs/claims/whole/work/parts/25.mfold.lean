/-! ===== the reference folds ===== -/
theorem turned_chk : bAll 8 (fun t => bAll 16 (fun a => xt_X9_turned (nI t) (nI a) == some (nI (imgN t a)))) = true := by decide +kernel
theorem turned_ok {t a : Nat} (ht : t < 8) (ha : a < 16) : xt_X9_turned (nI t) (nI a) = some (nI (imgN t a)) := by
  have := bAll_e (bAll_e turned_chk ht) ha
  simpa using this
theorem has_ok {B i : Nat} (hB : B < 65536) (hi : i < 16) : xt_X9_has (nI B) (nI i) = some (bI (B.testBit i)) := by
  unfold xt_X9_has
  have := (msk_nI hB).t1 hi
  by_cases c : ((nI B >>> (nI i &&& 31)) &&& (1 : Int32)) = 1
  · rw [if_pos c, this.mp c]; rfl
  · rw [if_neg c, show B.testBit i = false by simpa using mt this.mpr c]; rfl
theorem or0 (x : Int32) : x ||| 0 = x := by
  apply b_ext
  intro i hi
  rw [b_or, b_0, Bool.or_false]
/-- the ways in which places turn -/
def WE (B : Nat) (m : Mem) : Prop := m 31 12 = nI (Wl B 8).length ∧ ∀ j, j < (Wl B 8).length → ∀ a, a < 16 → m 41 (16 * j + a) = nI (imgN ((Wl B 8).getD j 0) a)
theorem Wl_s (B i : Nat) : Wl B (i + 1) = Wl B i ++ (if ksym B i then [i] else []) := filt_s _ _
theorem sym17 {hM : Mem} {B t L : Nat} (hB : B < 65536) (ht : t < 8) (hL : L < 8) (h32 : hM 32 3 = nI B) (h31 : hM 31 12 = nI L) (k : Int32 → Mem → Option Mem) (m0 : Mem) :
    ∃ v m', xt_X9_findSymmetries_l17 (nI t) hM k 10000 (0 : Int32) (0 : Int32) m0 = k v (mgs hM [41] m') ∧ msk v (imB t B 16) ∧ (∀ a, a < 16 → m' 41 (16 * L + a) = nI (imgN t a)) ∧ ∀ x, x < 16 * L → m' 41 x = m0 41 x := by
  have key := lup (fun n (q : Int32 × Mem) v => xt_X9_findSymmetries_l17 (nI t) hM k n q.1 v q.2) (fun q => k q.1 (mgs hM [41] q.2)) 16
    (fun i q => msk q.1 (imB t B i) ∧ (∀ a, a < i → q.2 41 (16 * L + a) = nI (imgN t a)) ∧ ∀ x, x < 16 * L → q.2 41 x = m0 41 x)
    (fun n q _ => by
      show xt_X9_findSymmetries_l17 _ _ _ (n + 1) q.1 (nI 16) q.2 = _
      rw [xt_X9_findSymmetries_l17, if_pos (show (16 : Int32) ≤ nI 16 by decide)])
    (fun n i q hi hI => by
      obtain ⟨I1, I2, I3⟩ := hI
      show ∃ s', _ ∧ xt_X9_findSymmetries_l17 _ _ _ (n + 1) q.1 (nI i) q.2 = _
      rw [xt_X9_findSymmetries_l17, lit 16, if_neg (by rw [ble _ _ (by omega) (by omega)]; omega), turned_ok ht hi, Option.bind_some, xgd_in (by unfold vp_in; decide), show (3 : Int32).toNatClampNeg = 3 from rfl, h32, has_ok hB hi, Option.bind_some, nI_1, h31, pk_mul, nI_add]
      simp only [xgd_in (xin (x := nI (16 * L + i)) rfl (show 16 * L + i < 128 by omega) (by decide)), cl (show 16 * L + i < 2 ^ 31 by omega)]
      have hw : ∀ m1 : Mem, m1 = mset hM 41 (upd (q.2 41) (16 * L + i) (nI (imgN t i))) → (∀ a, a < i + 1 → m1 41 (16 * L + a) = nI (imgN t a)) ∧ ∀ x, x < 16 * L → m1 41 x = m0 41 x := by
        intro m1 e
        subst e
        constructor
        · intro a ha
          rw [mset_s]
          unfold upd
          by_cases c : a = i
          · subst c; rw [if_pos rfl]
          · rw [if_neg (by omega)]; exact I2 a (by omega)
        · intro x hx
          rw [mset_s]
          unfold upd
          rw [if_neg (by omega)]; exact I3 x hx
      cases c : B.testBit i
      · rw [if_pos (show bI false = 0 by decide), or0]
        refine ⟨(q.1, mset hM 41 (upd (q.2 41) (16 * L + i) (nI (imgN t i)))), ⟨I1.congr (fun j _ => ?_), hw _ rfl⟩, rfl⟩
        rw [imB_s, c]; simp
      · rw [if_neg (show ¬ bI true = 0 by decide)]
        refine ⟨(q.1 ||| ((1 : Int32) <<< (nI (imgN t i) &&& 31)), mset hM 41 (upd (q.2 41) (16 * L + i) (nI (imgN t i)))), ⟨(I1.or (msk_1 (img_lt ht hi))).congr (fun j _ => ?_), hw _ rfl⟩, rfl⟩
        rw [imB_s, c, Bool.true_and]
        congr 1
        rw [Bool.eq_iff_iff, decide_eq_true_eq, decide_eq_true_eq]
        exact ⟨fun h => h.symm, fun h => h.symm⟩)
    10000 0 ((0 : Int32), m0) (by omega) (by omega) ⟨msk_0.congr (fun _ _ => rfl), fun a ha => absurd ha (by omega), fun x _ => rfl⟩
  obtain ⟨⟨v, m'⟩, ⟨h1, h2, h3⟩, h4⟩ := key
  exact ⟨v, m', h4, h1, h2, h3⟩
theorem exp2 {α β : Type} {z z' : α} {f : β → α} {P : β → Prop} (e : z = z') (h : ∃ m', P m' ∧ z' = f m') : ∃ m', P m' ∧ z = f m' := by rw [e]; exact h
theorem findSym_ok {m : Mem} {B : Nat} (hB : B < 65536) (h32 : m 32 3 = nI B) : ∃ o, xt_X9_findSymmetries m = some o ∧ WE B o ∧ (∀ k, k ≠ 12 → o 31 k = m 31 k) ∧ ∀ r, [31, 41].contains r = false → o r = m r := by
  unfold xt_X9_findSymmetries
  have key := lup (fun n (q : Mem) v => xt_X9_findSymmetries_l7 (mset m 31 (upd (m 31) 12 (0 : Int32))) (fun (m_5 : Mem) => (some (mgs m [31, 41] m_5))) n v q) (fun q => some (mgs m [31, 41] (mgs (mset m 31 (upd (m 31) 12 (0 : Int32))) [31, 41] q))) 8
    (fun i q => q 31 12 = nI (Wl B i).length ∧ (∀ k, k ≠ 12 → q 31 k = m 31 k) ∧ ∀ j, j < (Wl B i).length → ∀ a, a < 16 → q 41 (16 * j + a) = nI (imgN ((Wl B i).getD j 0) a))
    (fun n q _ => by
      show xt_X9_findSymmetries_l7 _ _ (n + 1) (nI 8) q = _
      rw [xt_X9_findSymmetries_l7, if_pos (show (8 : Int32) ≤ nI 8 by decide)])
    (fun n i q hi hI => by
      obtain ⟨I1, I2, I3⟩ := hI
      show ∃ s', _ ∧ xt_X9_findSymmetries_l7 _ _ (n + 1) (nI i) q = _
      have hl : (Wl B i).length ≤ i := filt_len _ _
      rw [xt_X9_findSymmetries_l7, lit 8, if_neg (by rw [ble _ _ (by omega) (by omega)]; omega)]
      obtain ⟨v, m', e1, e2, e3, e4⟩ := sym17 (hM := mgs (mset m 31 (upd (m 31) 12 (0 : Int32))) [31, 41] q) (B := B) (t := i) (L := (Wl B i).length) hB hi (by omega) h32 I1
        (fun (v2_3 : Int32) (m_4 : Mem) => (xgd (3 : Int32) 8 (if v2_3 = ((mset m 31 (upd (m 31) 12 (0 : Int32))) 32) (3 : Int32).toNatClampNeg then (xt_X9_findSymmetries_l7 (mset m 31 (upd (m 31) 12 (0 : Int32))) (fun (m_5 : Mem) => (some (mgs m [31, 41] m_5))) n (nI i + (1 : Int32)) (mgs (mset (mset m 31 (upd (m 31) 12 (0 : Int32))) 31 (upd (q 31) 12 ((q 31 12) + (1 : Int32)))) [41] m_4)) else (xt_X9_findSymmetries_l7 (mset m 31 (upd (m 31) 12 (0 : Int32))) (fun (m_5 : Mem) => (some (mgs m [31, 41] m_5))) n (nI i + (1 : Int32)) (mgs (mset (mset m 31 (upd (m 31) 12 (0 : Int32))) 31 (upd (q 31) 12 ((q 31 12) + (0 : Int32)))) [41] m_4)))))
        (mgs (mset m 31 (upd (m 31) 12 (0 : Int32))) [41] q)
      refine exp2 e1 ?_
      rw [xgd_in (by unfold vp_in; decide), show ((mset m 31 (upd (m 31) 12 (0 : Int32))) 32) (3 : Int32).toNatClampNeg = nI B from h32, nI_1, I1, nI_1]
      have hk : v = nI B ↔ ksym B i = true := by rw [e2.ext (msk_nI hB), ksym_iff]
      have e := Wl_s B i
      have old : ∀ j, j < (Wl B i).length → ∀ a, a < 16 → m' 41 (16 * j + a) = nI (imgN ((Wl B i).getD j 0) a) := by
        intro j hj a ha
        rw [e4 _ (by omega), mgs_i _ _ (by decide)]
        exact I3 j hj a ha
      by_cases c : v = nI B
      · rw [if_pos c]
        rw [if_pos (hk.mp c)] at e
        refine ⟨_, ⟨?_, ?_, ?_⟩, rfl⟩
        · rw [mgs_o _ _ (by decide), mset_s, e, List.length_append]; rfl
        · intro k hk
          rw [mgs_o _ _ (by decide), mset_s]
          unfold upd
          rw [if_neg hk]
          exact I2 k hk
        · intro j hj a ha
          rw [mgs_i _ _ (by decide), mgs_i _ _ (by decide), e]
          rw [e, List.length_append] at hj
          have hj : j < (Wl B i).length + 1 := hj
          by_cases c3 : j = (Wl B i).length
          · rw [c3, getD_r]; exact e3 a ha
          · rw [getD_l (by omega)]; exact old j (by omega) a ha
      · rw [if_neg c]
        rw [if_neg (fun z => c (hk.mpr z)), List.append_nil] at e
        refine ⟨_, ⟨?_, ?_, ?_⟩, rfl⟩
        · rw [mgs_o _ _ (by decide), mset_s, e]
          show nI _ + nI 0 = _
          rw [nI_add]; rfl
        · intro k hk
          rw [mgs_o _ _ (by decide), mset_s]
          unfold upd
          rw [if_neg hk]
          exact I2 k hk
        · intro j hj a ha
          rw [mgs_i _ _ (by decide), mgs_i _ _ (by decide), e]
          rw [e] at hj
          exact old j hj a ha)
    10000 0 (mset m 31 (upd (m 31) 12 (0 : Int32))) (by omega) (by omega) ⟨rfl, fun k hk => by rw [mset_s]; exact if_neg hk, fun j hj => absurd hj (by rw [show Wl B 0 = [] from rfl]; exact Nat.not_lt_zero _)⟩
  obtain ⟨q, ⟨h1, h2, h3⟩, h4⟩ := key
  exact ⟨_, h4, ⟨h1, h3⟩, h2, fun r hr => mgs_o _ _ hr⟩
