/-! ===== the class folds ===== -/
theorem imageOf_ok {m : Mem} (hg : GE m) {t B : Nat} (ht : t < 8) {x : Int32} (hx : msk x (fun i => B.testBit i)) : ∃ y, xt_X1_imageOf (nI t) x m = some y ∧ msk y (imB t B 16) := by
  unfold xt_X1_imageOf
  have key := lup (fun n (q : Int32) v => xt_X1_imageOf_l5 (nI t) x m (fun (v3_2 : Int32) => (some v3_2)) n q v) (fun q => some q) 16
    (fun i q => msk q (imB t B i))
    (fun n q _ => by
      show xt_X1_imageOf_l5 _ _ _ _ (n + 1) q (nI 16) = _
      rw [xt_X1_imageOf_l5, if_pos (show (16 : Int32) ≤ nI 16 by decide)])
    (fun n i q hi hI => by
      show ∃ s', _ ∧ xt_X1_imageOf_l5 _ _ _ _ (n + 1) q (nI i) = _
      rw [xt_X1_imageOf_l5, lit 16, if_neg (by rw [ble _ _ (by omega) (by omega)]; omega), nI_1]
      by_cases c : ((x >>> (nI i &&& 31)) &&& (1 : Int32)) = 0
      · rw [if_pos c]
        have c2 := (hx.t0 hi).mp c
        refine ⟨q, hI.congr (fun j _ => ?_), rfl⟩
        rw [imB_s, c2]; simp
      · rw [if_neg c, image_ok hg ht hi, Option.bind_some]
        have c2 : B.testBit i = true := by simpa using mt (hx.t0 hi).mpr c
        refine ⟨_, (hI.or (msk_1 (img_lt ht hi))).congr (fun j _ => ?_), rfl⟩
        rw [imB_s, c2, Bool.true_and]
        congr 1
        rw [Bool.eq_iff_iff, decide_eq_true_eq, decide_eq_true_eq]
        exact ⟨fun h => h.symm, fun h => h.symm⟩)
    10000 0 (0 : Int32) (by omega) (by omega) (msk_0.congr (fun _ _ => rfl))
  obtain ⟨y, h1, h2⟩ := key
  exact ⟨y, h2, h1⟩
/-- what is kept of the images -/
def KE (B : Nat) (m : Mem) : Prop := m 13 2 = nI (Kl B 8).length ∧ ∀ j, j < (Kl B 8).length → m 14 j = nI ((Kl B 8).getD j 0)
def FE (m : Mem) : Prop := m 13 3 = -1 ∨ ∃ B, B < 65536 ∧ m 13 3 = nI B ∧ KE B m
theorem Kl_s {B i : Nat} (hi : i ≠ 0) : Kl B (i + 1) = Kl B i ++ (if ksym B i then [i] else []) := by
  unfold Kl
  rw [filt_s]
  congr 1
  rw [decide_eq_true hi, Bool.true_and]
theorem foldPrep_ok {m : Mem} (hg : GE m) (hf : FE m) {B : Nat} (hB : B < 65536) : ∃ o, xt_X1_prepare (nI B) m = some o ∧ FE o ∧ KE B o ∧ ∀ r, [13, 14].contains r = false → o r = m r := by
  unfold xt_X1_prepare
  by_cases c : m 13 3 = nI B
  · rw [if_pos c]
    refine ⟨m, rfl, hf, ?_, fun _ _ => rfl⟩
    rcases hf with h | ⟨B', h1, h2, h3⟩
    · rw [h] at c; exact absurd c.symm (nI_m1 (by omega))
    · rw [h2, nI_eq (by omega) (by omega)] at c
      subst c; exact h3
  · rw [if_neg c]
    have hg2 : GE (mset m 13 (upd (upd (m 13) 2 (0 : Int32)) 3 (nI B))) := hg.mset (by omega)
    have key := lup (fun n (q : Mem) v => xt_X1_prepare_l21 (nI B) (mset m 13 (upd (upd (m 13) 2 (0 : Int32)) 3 (nI B))) (fun (m_2 : Mem) => (some (mgs m [13, 14] m_2))) n v q) (fun q => some (mgs m [13, 14] (mgs (mset m 13 (upd (upd (m 13) 2 (0 : Int32)) 3 (nI B))) [13, 14] q))) 8
      (fun i q => 1 ≤ i ∧ q 13 3 = nI B ∧ q 13 2 = nI (Kl B i).length ∧ ∀ j, j < (Kl B i).length → q 14 j = nI ((Kl B i).getD j 0))
      (fun n q _ => by
        show xt_X1_prepare_l21 _ _ _ (n + 1) (nI 8) q = _
        rw [xt_X1_prepare_l21, if_pos (show (8 : Int32) ≤ nI 8 by decide)])
      (fun n i q hi hI => by
        obtain ⟨I0, I1, I2, I3⟩ := hI
        show ∃ s', _ ∧ xt_X1_prepare_l21 _ _ _ (n + 1) (nI i) q = _
        rw [xt_X1_prepare_l21, lit 8, if_neg (by rw [ble _ _ (by omega) (by omega)]; omega), nI_1]
        obtain ⟨y, hy, hm⟩ := imageOf_ok (m := mgs (mset m 13 (upd (upd (m 13) 2 (0 : Int32)) 3 (nI B))) [13] q) (hg2.mgs (ngr (by decide))) (t := i) hi (msk_nI hB)
        rw [hy, Option.bind_some]
        have hk : y = nI B ↔ ksym B i = true := by rw [hm.ext (msk_nI hB), ksym_iff]
        have hl : (Kl B i).length ≤ i := filt_len _ _
        by_cases c2 : y = nI B
        · rw [if_pos c2, I2, and7 (by omega), xgd_in (xin rfl (by omega) (by decide)), cl (by omega), nI_1]
          have e := Kl_s (B := B) (i := i) (by omega)
          rw [if_pos (hk.mp c2)] at e
          refine ⟨_, ⟨by omega, ?_, ?_, ?_⟩, rfl⟩
          · rw [mset_n _ _ (by omega), mset_s]; exact I1
          · rw [mset_n _ _ (by omega), mset_s, e, List.length_append]; rfl
          · intro j hj
            rw [mset_s]
            unfold upd
            rw [e, List.length_append] at hj
            have hj : j < (Kl B i).length + 1 := hj
            rw [e]
            by_cases c3 : j = (Kl B i).length
            · rw [if_pos c3, c3, getD_r]
            · rw [if_neg c3, getD_l (by omega), I3 j (by omega)]
        · rw [if_neg c2]
          have e := Kl_s (B := B) (i := i) (by omega)
          rw [if_neg (fun z => c2 (hk.mpr z)), List.append_nil] at e
          refine ⟨_, ⟨by omega, ?_, ?_, ?_⟩, rfl⟩
          · rw [mgs_i _ _ (by decide)]; exact I1
          · rw [mgs_i _ _ (by decide), e]; exact I2
          · intro j hj
            rw [mgs_i _ _ (by decide), e]
            rw [e] at hj
            exact I3 j hj)
      10000 1 (mset m 13 (upd (upd (m 13) 2 (0 : Int32)) 3 (nI B))) (by omega) (by omega) ⟨by omega, rfl, rfl, fun j hj => absurd hj (by rw [show Kl B 1 = [] from rfl]; exact Nat.not_lt_zero _)⟩
    obtain ⟨q, ⟨_, h1, h2, h3⟩, h4⟩ := key
    refine ⟨_, h4, Or.inr ⟨B, hB, h1, h2, h3⟩, ⟨h2, h3⟩, fun r hr => mgs_o _ _ hr⟩
theorem imageOfNumber_ok {m : Mem} (hg : GE m) {t n : Nat} (ht : t < 8) (hn : n < 4096) (hp : n % 128 < 120) : xt_X1_imageOfNumber (nI t) (nI n) m = some (nI (imN t n)) := by
  have hl := lohi hp
  unfold xt_X1_imageOfNumber
  rw [pairIn_ok hn, Option.bind_some, foxOf_ok hn, Option.bind_some, image_ok hg ht (Nat.mod_lt _ (by omega)), Option.bind_some, lowerOf_ok hg hp, Option.bind_some, image_ok hg ht (show loP (n % 128) < 16 by omega), Option.bind_some, higherOf_ok hg hp, Option.bind_some, image_ok hg ht hl.2.1, Option.bind_some, whoOf_ok hn, Option.bind_some, numberOf_ok hg _ _ (img_lt ht (by omega)) (img_lt ht hl.2.1) (img_ne ht (by omega) hl.2.1 (by omega)), Option.bind_some]
  rfl
/-- the least number of those alike -/
def lowA (B n : Nat) : Nat := minE (fun j => imN ((Wl B 8).getD j 0) n) n (Wl B 8).length
def lowK (B n k : Nat) : Nat := minE (fun j => imN ((Kl B 8).getD j 0) n) n k
theorem lowA_K {B n : Nat} (hn : n < 4096) (hp : n % 128 < 120) : lowA B n = lowK B n (Kl B 8).length := by
  unfold lowA lowK
  rw [WKlen, minE_sh _ _ (show imN ((Wl B 8).getD 0 0) n = n by rw [WK0, imN_0 hn hp])]
  apply minE_c
  intro j _
  rw [WKat]
theorem imK_lt {B n j : Nat} (hj : j < (Kl B 8).length) (hn : n < 4096) (hp : n % 128 < 120) : imN ((Kl B 8).getD j 0) n < 4096 := (imN_parts (K_in hj) hn hp).1
theorem jmin_ok {a b : Nat} (ha : a < 2 ^ 31) (hb : b < 2 ^ 31) : xt_J9_min_7cf53 (nI a) (nI b) = some (nI (min a b)) := by
  unfold xt_J9_min_7cf53
  by_cases c : b < a
  · rw [if_pos ((nI_ltI hb ha).mpr c), Nat.min_eq_right (by omega)]
  · rw [if_neg (mt (nI_ltI hb ha).mp c), Nat.min_eq_left (by omega)]
theorem lowestAlike_ok {m : Mem} (hg : GE m) {B n : Nat} (hk : KE B m) (hn : n < 4096) (hp : n % 128 < 120) : xt_X1_lowestAlike (nI n) m = some (nI (lowA B n)) := by
  unfold xt_X1_lowestAlike
  have hlen : (Kl B 8).length ≤ 8 := filt_len _ _
  have key := lup (fun a (q : Int32) v => xt_X1_lowestAlike_l4 (nI n) m (fun (v2_3 : Int32) => (some v2_3)) a q v) (fun q => some q) (Kl B 8).length
    (fun i q => q = nI (lowK B n i))
    (fun a q _ => by
      show xt_X1_lowestAlike_l4 _ _ _ (a + 1) q (nI _) = _
      rw [xt_X1_lowestAlike_l4, hk.1, if_pos (Int32.le_refl _)])
    (fun a i q hi hI => by
      show ∃ s', _ ∧ xt_X1_lowestAlike_l4 _ _ _ (a + 1) q (nI i) = _
      rw [xt_X1_lowestAlike_l4, hk.1, if_neg (by rw [ble _ _ (by omega) (by omega)]; omega), show Int32.ofNat 8 = nI 8 from rfl, if_neg (by rw [ble _ _ (by omega) (by omega)]; omega), xgd_in (xin rfl (show i < 8 by omega) (by decide)), cl (by omega), hk.2 i hi, imageOfNumber_ok hg (K_in hi) hn hp, Option.bind_some, hI, jmin_ok (by have := minE_le (fun j => imN ((Kl B 8).getD j 0) n) n i; unfold lowK; omega) (by have := imK_lt hi hn hp; omega), Option.bind_some, nI_1]
      exact ⟨_, rfl, rfl⟩)
    10000 0 (nI n) (by omega) (by omega) rfl
  obtain ⟨q, h1, h2⟩ := key
  subst h1
  rw [lowA_K hn hp]
  exact h2
theorem standsForItself_ok {m : Mem} (hg : GE m) {B n : Nat} (hk : KE B m) (hn : n < 4096) (hp : n % 128 < 120) : xt_X1_standsForItself (nI n) m = some (bI (decide (lowA B n = n))) := by
  unfold xt_X1_standsForItself
  have hlen : (Kl B 8).length ≤ 8 := filt_len _ _
  have go : ∀ (a i : Nat), i ≤ (Kl B 8).length → (Kl B 8).length - i < a → (∀ j, j < i → n ≤ imN ((Kl B 8).getD j 0) n) → xt_X1_standsForItself_l2 (nI n) m (fun (_ : Unit) => (some (1 : Int32))) a (nI i) = some (bI (decide (lowA B n = n))) := by
    intro a
    induction a with
    | zero => intro i h1 h2; omega
    | succ a ih =>
      intro i h1 h2 h3
      rw [xt_X1_standsForItself_l2, hk.1]
      by_cases c : i = (Kl B 8).length
      · rw [c, if_pos (Int32.le_refl _)]
        have : lowA B n = n := by
          rw [lowA_K hn hp]
          exact (minE_eq _ _ _).mpr (fun j hj => h3 j (by omega))
        rw [decide_eq_true this]; rfl
      · have hi : i < (Kl B 8).length := by omega
        rw [if_neg (by rw [ble _ _ (by omega) (by omega)]; omega), show Int32.ofNat 8 = nI 8 from rfl, if_neg (by rw [ble _ _ (by omega) (by omega)]; omega), xgd_in (xin rfl (show i < 8 by omega) (by decide)), cl (by omega), hk.2 i hi, imageOfNumber_ok hg (K_in hi) hn hp, Option.bind_some, nI_1]
        have hlt := imK_lt hi hn hp
        by_cases c2 : n ≤ imN ((Kl B 8).getD i 0) n
        · rw [if_pos ((ble _ _ (by omega) (by omega)).mpr c2)]
          refine ih (i + 1) (by omega) (by omega) (fun j hj => ?_)
          by_cases c3 : j = i
          · rw [c3]; exact c2
          · exact h3 j (by omega)
        · rw [if_neg (mt (ble _ _ (by omega) (by omega)).mp c2)]
          have : ¬ lowA B n = n := by
            rw [lowA_K hn hp]
            intro z
            exact c2 ((minE_eq _ _ _).mp z i hi)
          rw [decide_eq_false this]; rfl
  exact go 10000 0 (by omega) (by omega) (fun j hj => absurd hj (by omega))
theorem alike_ok {m : Mem} (hg : GE m) {B n : Nat} (hk : KE B m) (hn : n < 4096) (hp : n % 128 < 120) : xt_X1_alike (nI n) m = some (nI (dct B n (Wl B 8).length)) := by
  unfold xt_X1_alike
  have hlen : (Kl B 8).length ≤ 8 := filt_len _ _
  have key := lup (fun a (q : Int32) v => xt_X1_alike_l4 (nI n) m (fun (v2_2 : Int32) => (if v2_2 ≤ 0 then (some (1 : Int32)) else (Option.bind (xt_X1_symmetries m) (fun (o_3 : Int32) => (xgz v2_2 (some (o_3 / v2_2))))))) a q v) (fun q => if q ≤ 0 then (some (1 : Int32)) else (Option.bind (xt_X1_symmetries m) (fun (o_3 : Int32) => (xgz q (some (o_3 / q)))))) (Kl B 8).length
    (fun i q => q = nI (1 + cntE (fun j => decide (imN ((Kl B 8).getD j 0) n = n)) i))
    (fun a q _ => by
      show xt_X1_alike_l4 _ _ _ (a + 1) q (nI _) = _
      rw [xt_X1_alike_l4, hk.1, if_pos (Int32.le_refl _)])
    (fun a i q hi hI => by
      show ∃ s', _ ∧ xt_X1_alike_l4 _ _ _ (a + 1) q (nI i) = _
      rw [xt_X1_alike_l4, hk.1, if_neg (by rw [ble _ _ (by omega) (by omega)]; omega), show Int32.ofNat 8 = nI 8 from rfl, if_neg (by rw [ble _ _ (by omega) (by omega)]; omega), xgd_in (xin rfl (show i < 8 by omega) (by decide)), cl (by omega), hk.2 i hi, imageOfNumber_ok hg (K_in hi) hn hp, Option.bind_some, hI, nI_1, nI_1]
      have hlt := imK_lt hi hn hp
      show ∃ s', s' = nI (1 + (cntE _ i + if decide (imN ((Kl B 8).getD i 0) n = n) = true then 1 else 0)) ∧ _
      by_cases c : imN ((Kl B 8).getD i 0) n = n
      · rw [if_pos ((nI_eq (by omega) (by omega)).mpr c), if_pos (decide_eq_true c)]
        exact ⟨_, rfl, rfl⟩
      · rw [if_neg (mt (nI_eq (by omega) (by omega)).mp c), if_neg (by simpa using c)]
        exact ⟨_, rfl, rfl⟩)
    10000 0 (1 : Int32) (by omega) (by omega) rfl
  obtain ⟨q, h1, h2⟩ := key
  have h2' : xt_X1_alike_l4 (nI n) m (fun (v2_2 : Int32) => (if v2_2 ≤ 0 then (some (1 : Int32)) else (Option.bind (xt_X1_symmetries m) (fun (o_3 : Int32) => (xgz v2_2 (some (o_3 / v2_2))))))) 10000 (1 : Int32) (0 : Int32) = _ := h2
  rw [h2']
  have eu : 1 + cntE (fun j => decide (imN ((Kl B 8).getD j 0) n = n)) (Kl B 8).length = unm B n := by
    unfold unm
    rw [WKlen, cntE_sh _ (by rw [decide_eq_true_eq, WK0, imN_0 hn hp])]
    congr 1
    apply cntE_c
    intro j _
    rw [WKat]
  rw [eu] at h1
  have hu : 0 < unm B n := by omega
  have hu2 : unm B n ≤ 9 := by
    have := cntE_le (fun j => decide (imN ((Kl B 8).getD j 0) n = n)) (Kl B 8).length
    omega
  subst h1
  unfold xt_X1_symmetries
  rw [lit 0, if_neg (by rw [ble _ _ (by omega) (by omega)]; omega), hk.1, Option.bind_some, xgz_in (by rw [lit 0, nI_eq (by omega) (by omega)]; omega), nI_1, ← WKlen, pk_div (by rw [WKlen]; omega) hu (by omega), alike_cnt B hn hp]
