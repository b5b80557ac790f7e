/-! ===== the reference works, and holds what it has worked out ===== -/
def MD (s B : Nat) (m : Mem) : Prop := M3 s B m ∧ WE B m ∧ ∀ key, key < 98 → m 42 key = tld s B key
def MW (g : Nat → Nat) (m : Mem) : Prop := m 31 16 = 1 ∧ (∀ k, k < 4 → m 44 k = nI (g k)) ∧ MD (sOf g) (g 3) m
def ME (m : Mem) : Prop := m 31 16 = 0 ∨ ∃ g, (∀ k, k < 4 → g k < 65536) ∧ MW g m
theorem asWorked_ok {m : Mem} {b : Bool} (hb : m 31 16 = bI b) : ∃ c : Bool, xt_X9_isAsWorked m = some (bI c) ∧ (c = true ↔ (b = true ∧ ∀ k, k < 4 → m 44 k = m 32 k)) := by
  unfold xt_X9_isAsWorked
  have key := lup (fun n (q : Int32) v => xt_X9_isAsWorked_l7 m (fun (v1_1 : Int32) => (xgb v1_1 (some v1_1))) n q v) (fun q => xgb q (some q)) 4
    (fun i q => ∃ c : Bool, q = bI c ∧ (c = true ↔ (b = true ∧ ∀ k, k < i → m 44 k = m 32 k)))
    (fun n q _ => by
      show xt_X9_isAsWorked_l7 _ _ (n + 1) q (nI 4) = _
      rw [xt_X9_isAsWorked_l7, if_pos (show (4 : Int32) ≤ nI 4 by decide)])
    (fun n i q hi hI => by
      obtain ⟨c, c1, c2⟩ := hI
      show ∃ s', _ ∧ xt_X9_isAsWorked_l7 _ _ (n + 1) q (nI i) = _
      rw [xt_X9_isAsWorked_l7, lit 4, if_neg (by rw [ble _ _ (by omega) (by omega)]; omega), xgd_in (xin rfl hi (by decide)), xgd_in (xin rfl (show i < 8 by omega) (by decide)), cl (by omega), nI_1, c1]
      by_cases e : m 44 i = m 32 i
      · rw [if_pos e]
        refine ⟨bI c &&& 1, ⟨c, by cases c <;> decide, ?_⟩, rfl⟩
        rw [c2]
        constructor
        · rintro ⟨h1, h2⟩
          refine ⟨h1, fun k hk => ?_⟩
          by_cases z : k = i
          · rw [z]; exact e
          · exact h2 k (by omega)
        · rintro ⟨h1, h2⟩
          exact ⟨h1, fun k hk => h2 k (by omega)⟩
      · rw [if_neg e]
        refine ⟨bI c &&& 0, ⟨false, by cases c <;> decide, ?_⟩, rfl⟩
        exact ⟨fun h => (by cases h), fun h => absurd (h.2 i (by omega)) e⟩)
    10000 0 (m 31 16) (by omega) (by omega) ⟨b, hb, ⟨fun h => ⟨h, fun k hk => absurd hk (by omega)⟩, fun h => h.1⟩⟩
  obtain ⟨q, ⟨c, h1, h2⟩, h3⟩ := key
  subst h1
  refine ⟨c, ?_, h2⟩
  have h3' : xt_X9_isAsWorked_l7 m _ 10000 (m 31 16) (0 : Int32) = _ := h3
  rw [h3', xgb_in (show bI c &&& 1 = bI c by cases c <;> decide)]
theorem WE_M {B : Nat} {m m' : Mem} (h : WE B m) (e1 : m' 31 = m 31) (e2 : m' 41 = m 41) : WE B m' := h.c e1 e2
theorem sOf_c {g g' : Nat → Nat} (h : ∀ k, k < 4 → g k = g' k) : sOf g = sOf g' := by unfold sOf; rw [h 0 (by omega), h 1 (by omega), h 2 (by omega)]
theorem mwork_ok {m : Mem} {g : Nat → Nat} (hp : PE m) (ha : MA m g) (hv : VS g) (hm : ME m) (hb : ∀ s B, VC s B → Bd s B) :
    ∃ o, xt_X9_work m = some o ∧ MW g o ∧ (∀ k, k ≠ 12 → k ≠ 16 → o 31 k = m 31 k) ∧ ∀ r, [31, 38, 39, 40, 41, 42, 43, 44].contains r = false → o r = m r := by
  have hB := hv.2.1.2.1
  have hg4 : ∀ k, k < 4 → g k < 65536 := by
    intro k hk
    obtain ⟨h0, h1, h2⟩ := hv.1
    have : k = 0 ∨ k = 1 ∨ k = 2 ∨ k = 3 := by omega
    rcases this with e | e | e | e <;> subst e <;> omega
  have hbool : ∃ b : Bool, m 31 16 = bI b := by
    rcases hm with h | ⟨g', _, h, _⟩
    · exact ⟨false, h⟩
    · exact ⟨true, h⟩
  obtain ⟨b, hbb⟩ := hbool
  obtain ⟨c, c1, c2⟩ := asWorked_ok hbb
  unfold xt_X9_work
  rw [c1, Option.bind_some]
  cases c
  · rw [if_pos (show bI false = 0 by decide)]
    have key := fun (K : Mem → Option Mem) => lup (fun n (q : Mem) v => xt_X9_work_l10 m K n v q) (fun q => K (mgs m [44] q)) 4
      (fun i q => ∀ k, k < i → q 44 k = nI (g k))
      (fun n q _ => by
        show xt_X9_work_l10 _ _ (n + 1) (nI 4) q = _
        rw [xt_X9_work_l10, if_pos (show (4 : Int32) ≤ nI 4 by decide)])
      (fun n i q hi hI => by
        show ∃ s', _ ∧ xt_X9_work_l10 _ _ (n + 1) (nI i) q = _
        rw [xt_X9_work_l10, lit 4, if_neg (by rw [ble _ _ (by omega) (by omega)]; omega), xgd_in (xin rfl (show i < 8 by omega) (by decide)), xgd_in (xin rfl hi (by decide)), cl (by omega), nI_1]
        refine ⟨_, fun k hk => ?_, rfl⟩
        rw [mset_s]
        by_cases z : k = i
        · rw [z, upd_s]; exact ha i hi
        · rw [upd_n _ _ z]; exact hI k (by omega))
      10000 0 m (by omega) (by omega) (fun k hk => absurd hk (by omega))
    obtain ⟨q, q1, q2⟩ := key _
    have q2' : xt_X9_work_l10 m _ 10000 (0 : Int32) m = _ := q2
    rw [q2']
    obtain ⟨m1, hm1⟩ : ∃ m1 : Mem, m1 = mset m 31 (upd (m 31) 16 (1 : Int32)) := ⟨_, rfl⟩
    rw [← hm1]
    have hp1 : PE m1 := hp.c (by rw [hm1]; exact mset_n _ _ (by omega)) (by rw [hm1]; exact mset_n _ _ (by omega))
    have ha1 : MA m1 g := ha.c (by rw [hm1]; exact mset_n _ _ (by omega))
    obtain ⟨o3, w1, w2⟩ := workOutAll_ok hp1 ha1 hv.1 hB (hb _ _ hv.2.1)
    rw [w1, Option.bind_some]
    obtain ⟨o4, s1, s2, s3, s4⟩ := findSym_ok (m := m1) hB (ha1 3 (by omega))
    rw [s1, Option.bind_some]
    have hp4 : PE (mgs m [31, 41] o4) := hp.c (mgs_o _ _ (by decide)) (mgs_o _ _ (by decide))
    have ha4 : MA (mgs m [31, 41] o4) g := ha.c (mgs_o _ _ (by decide))
    obtain ⟨o5, f1, f2, f3⟩ := fold_ok hp4 ha4 hB (s2.c (mgs_i _ _ (by decide)) (mgs_i _ _ (by decide)))
    rw [f1, Option.bind_some]
    obtain ⟨mA, hmA⟩ : ∃ mA : Mem, mA = (mgs (mgs (mgs (mgs m [31, 41] o4) [38] o3) [39, 40] o5) [44] (mgs m [44] q)) := ⟨_, rfl⟩
    rw [← hmA]
    have pA : PE mA := hp.c (by rw [hmA]; rfl) (by rw [hmA]; rfl)
    have M3A : M3 (sOf g) (g 3) mA := ⟨fun n hn => by rw [hmA]; exact w2 n hn, fun n hn => by rw [hmA]; exact f2 n hn⟩
    have key2 := fun (K : Mem → Option Mem) => lup (fun n (q : Mem) v => xt_X9_work_l52 mA K n v q) (fun q => K (mgs mA [42, 43] q)) 98
      (fun i q => ∀ key, key < i → q 42 key = tld (sOf g) (g 3) key)
      (fun n q _ => by
        show xt_X9_work_l52 _ _ (n + 1) (nI 98) q = _
        rw [xt_X9_work_l52, if_pos (show (98 : Int32) ≤ nI 98 by decide)])
      (fun n i q hi hI => by
        show ∃ s', _ ∧ xt_X9_work_l52 _ _ (n + 1) (nI i) q = _
        obtain ⟨o, r1, r2⟩ := ruleOf_ok (m := mgs mA [43] q) (s := sOf g) (B := g 3) (pA.c (mgs_o _ _ (by decide)) (mgs_o _ _ (by decide))) (M3A.c (mgs_o _ _ (by decide)) (mgs_o _ _ (by decide)) (mgs_o _ _ (by decide))) hi
        rw [xt_X9_work_l52, lit 98, if_neg (by rw [ble _ _ (by omega) (by omega)]; omega), r1, Option.bind_some, xgd_in (xin rfl hi (by decide)), cl (by omega), nI_1]
        refine ⟨_, fun key hk => ?_, rfl⟩
        rw [mgs_o _ _ (by decide), mset_s]
        by_cases z : key = i
        · rw [z, upd_s]
        · rw [upd_n _ _ z]; exact hI key (by omega))
      10000 0 m (by omega) (by omega) (fun key hk => absurd hk (by omega))
    obtain ⟨q5, t1, t2⟩ := key2 (fun (m_7 : Mem) => (some (mgs (mgs (mgs (mgs (mgs m [31, 41] o4) [38] o3) [39, 40] o5) [42, 43] m_7) [44] (mgs m [44] q))))
    have t2' : xt_X9_work_l52 mA (fun (m_7 : Mem) => (some (mgs (mgs (mgs (mgs (mgs m [31, 41] o4) [38] o3) [39, 40] o5) [42, 43] m_7) [44] (mgs m [44] q)))) 10000 (0 : Int32) m = _ := t2
    rw [t2']
    refine ⟨_, rfl, ⟨?_, ?_, ⟨?_, ?_⟩, ?_, ?_⟩, ?_, ?_⟩
    · show o4 31 16 = 1
      rw [s3 16 (by omega), hm1, mset_s, upd_s]
    · intro k hk; exact q1 k hk
    · intro n hn; exact w2 n hn
    · intro n hn; exact f2 n hn
    · exact s2.c rfl rfl
    · intro key hk; exact t1 key hk
    · intro k k1 k2
      show o4 31 k = _
      rw [s3 k k1, hm1, mset_s, upd_n _ _ k2]
    · intro r hr
      have hne : ∀ x, [31, 38, 39, 40, 41, 42, 43, 44].contains x = true → r ≠ x := fun x hx e => by subst e; rw [hr] at hx; cases hx
      have h44 : [44].contains r = false := by simp [hne 44 (by decide)]
      have h42 : [42, 43].contains r = false := by simp [hne 42 (by decide), hne 43 (by decide)]
      have h39 : [39, 40].contains r = false := by simp [hne 39 (by decide), hne 40 (by decide)]
      have h38 : [38].contains r = false := by simp [hne 38 (by decide)]
      have h31 : [31, 41].contains r = false := by simp [hne 31 (by decide), hne 41 (by decide)]
      rw [mgs_o _ _ h44, mgs_o _ _ h42, mgs_o _ _ h39, mgs_o _ _ h38, mgs_o _ _ h31]
  · rw [if_neg (show ¬ bI true = 0 by decide)]
    obtain ⟨hb1, h44⟩ := c2.mp rfl
    refine ⟨m, rfl, ?_, fun _ _ _ => rfl, fun _ _ => rfl⟩
    rcases hm with h | ⟨g', g1, w1, w2, w3⟩
    · rw [hbb, hb1] at h; exact absurd h (by decide)
    · have e : ∀ k, k < 4 → g' k = g k := fun k hk => by
        have := h44 k hk
        rw [w2 k hk, ha k hk, nI_eq (by have := g1 k hk; omega) (by have := hg4 k hk; omega)] at this
        exact this
      refine ⟨w1, fun k hk => by rw [w2 k hk, e k hk], ?_⟩
      rw [← sOf_c e, ← e 3 (by omega)]; exact w3
