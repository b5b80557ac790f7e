/-! ===== the eight images and those that keep the blocked places ===== -/
def cmL : List Nat := [0, 1, 2, 3, 4, 5, 6, 7, 1, 0, 3, 2, 6, 7, 4, 5, 2, 3, 0, 1, 5, 4, 7, 6, 3, 2, 1, 0, 7, 6, 5, 4, 4, 5, 6, 7, 0, 1, 2, 3, 5, 4, 7, 6, 2, 3, 0, 1, 6, 7, 4, 5, 1, 0, 3, 2, 7, 6, 5, 4, 3, 2, 1, 0]
def ivL : List Nat := [0, 1, 2, 3, 4, 6, 5, 7]
def sbL : List Nat := [1, 3, 5, 9, 15, 17, 105, 129, 153, 255]
def cmp8 (t u : Nat) : Nat := cmL.getD (8 * t + u) 0
def inv8 (t : Nat) : Nat := ivL.getD t 0
set_option maxRecDepth 100000 in
theorem img_chk : bAll 8 (fun t => bAll 16 (fun a => decide (imgN t a < 16) && (decide (imgN 0 a = a) && bAll 16 (fun b => decide (a = b) || !decide (imgN t a = imgN t b))))) = true := by decide +kernel
set_option maxRecDepth 100000 in
theorem cmp_chk : bAll 8 (fun t => bAll 8 (fun u => decide (cmp8 t u < 8) && (decide (inv8 t < 8) && (decide (cmp8 (inv8 t) t = 0) && (decide (cmp8 t (cmp8 (inv8 t) u) = u) && bAll 16 (fun a => decide (imgN (cmp8 t u) a = imgN t (imgN u a)))))))) = true := by decide +kernel
theorem img_lt {t a : Nat} (ht : t < 8) (ha : a < 16) : imgN t a < 16 := by
  have := bAll_e (bAll_e img_chk ht) ha
  rw [Bool.and_eq_true] at this
  exact of_decide_eq_true this.1
theorem img_0 {a : Nat} (ha : a < 16) : imgN 0 a = a := by
  have := bAll_e (bAll_e img_chk (show 0 < 8 by omega)) ha
  rw [Bool.and_eq_true, Bool.and_eq_true] at this
  exact of_decide_eq_true this.2.1
theorem img_ne {t a b : Nat} (ht : t < 8) (ha : a < 16) (hb : b < 16) (e : a ≠ b) : imgN t a ≠ imgN t b := by
  have := bAll_e (bAll_e img_chk ht) ha
  rw [Bool.and_eq_true, Bool.and_eq_true] at this
  have := bAll_e this.2.2 hb
  simpa [e] using this
theorem cmp_all {t u : Nat} (ht : t < 8) (hu : u < 8) : cmp8 t u < 8 ∧ inv8 t < 8 ∧ cmp8 (inv8 t) t = 0 ∧ cmp8 t (cmp8 (inv8 t) u) = u ∧ ∀ a, a < 16 → imgN (cmp8 t u) a = imgN t (imgN u a) := by
  have := bAll_e (bAll_e cmp_chk ht) hu
  simp only [Bool.and_eq_true, decide_eq_true_eq] at this
  exact ⟨this.1, this.2.1, this.2.2.1, this.2.2.2.1, fun a ha => of_decide_eq_true (bAll_e this.2.2.2.2 ha)⟩
/-- the image of a position's number -/
def imN (t n : Nat) : Nat := 2048 * (n / 2048) + 128 * imgN t (n / 128 % 16) + prN (imgN t (loP (n % 128))) (imgN t (hiP (n % 128)))
theorem imN_parts {t n : Nat} (ht : t < 8) (hn : n < 4096) (hp : n % 128 < 120) : imN t n < 4096 ∧ imN t n / 2048 = n / 2048 ∧ imN t n / 128 % 16 = imgN t (n / 128 % 16) ∧ imN t n % 128 = prN (imgN t (loP (n % 128))) (imgN t (hiP (n % 128))) ∧ imN t n % 128 < 120 := by
  have hl := lohi hp
  have a1 := img_lt ht (show loP (n % 128) < 16 by omega)
  have a2 := img_lt ht hl.2.1
  have a3 := img_ne ht (show loP (n % 128) < 16 by omega) hl.2.1 (by omega)
  have a4 := (pr_lohi a1 a2 a3).1
  have a5 := img_lt ht (show n / 128 % 16 < 16 from Nat.mod_lt _ (by omega))
  unfold imN
  generalize prN (imgN t (loP (n % 128))) (imgN t (hiP (n % 128))) = x at *
  generalize imgN t (n / 128 % 16) = y at *
  omega
theorem imN_0 {n : Nat} (hn : n < 4096) (hp : n % 128 < 120) : imN 0 n = n := by
  have hl := lohi hp
  unfold imN
  rw [img_0 (show n / 128 % 16 < 16 from Nat.mod_lt _ (by omega)), img_0 (show loP (n % 128) < 16 by omega), img_0 hl.2.1, hl.2.2]
  omega
theorem imN_cmp {t u n : Nat} (ht : t < 8) (hu : u < 8) (hn : n < 4096) (hp : n % 128 < 120) : imN t (imN u n) = imN (cmp8 t u) n := by
  have hl := lohi hp
  obtain ⟨_, e1, e2, e3, _⟩ := imN_parts hu hn hp
  have hc := (cmp_all ht hu).2.2.2.2
  have a1 := img_lt hu (show loP (n % 128) < 16 by omega)
  have a2 := img_lt hu hl.2.1
  have a3 := img_ne hu (show loP (n % 128) < 16 by omega) hl.2.1 (by omega)
  have a4 := pr_lohi a1 a2 a3
  have key : prN (imgN t (loP (imN u n % 128))) (imgN t (hiP (imN u n % 128))) = prN (imgN t (imgN u (loP (n % 128)))) (imgN t (imgN u (hiP (n % 128)))) := by
    rw [e3, a4.2.1, a4.2.2]
    rcases Nat.le_total (imgN u (loP (n % 128))) (imgN u (hiP (n % 128))) with h | h
    · rw [Nat.min_eq_left h, Nat.max_eq_right h]
    · rw [Nat.min_eq_right h, Nat.max_eq_left h, prN_comm]
  show 2048 * (imN u n / 2048) + 128 * imgN t (imN u n / 128 % 16) + prN (imgN t (loP (imN u n % 128))) (imgN t (hiP (imN u n % 128))) = _
  rw [key, e1, e2]
  unfold imN
  rw [hc _ (Nat.mod_lt _ (by omega)), hc _ (show loP (n % 128) < 16 by omega), hc _ hl.2.1]
theorem imN_eq {t u n : Nat} (ht : t < 8) (hu : u < 8) (hn : n < 4096) (hp : n % 128 < 120) : imN t n = imN u n ↔ imN (cmp8 (inv8 t) u) n = n := by
  obtain ⟨c1, c2, c3, c4, _⟩ := cmp_all ht hu
  have c5 := (cmp_all c2 hu).1
  constructor
  · intro h
    have := congrArg (imN (inv8 t)) h
    rw [imN_cmp c2 ht hn hp, imN_cmp c2 hu hn hp, c3, imN_0 hn hp] at this
    exact this.symm
  · intro h
    have := congrArg (imN t) h
    rw [imN_cmp ht c5 hn hp, c4] at this
    exact this.symm
/-- the places that t makes of the blocked ones, with those below k -/
def imB (t B k : Nat) (i : Nat) : Bool := (List.range k).any fun a => B.testBit a && decide (imgN t a = i)
theorem imB_s (t B k i : Nat) : imB t B (k + 1) i = (imB t B k i || (B.testBit k && decide (imgN t k = i))) := by
  unfold imB
  rw [List.range_succ, List.any_append]; simp
def ksym (B t : Nat) : Bool := bAll 16 fun i => imB t B 16 i == B.testBit i
theorem imB_iff {t B i : Nat} : imB t B 16 i = true ↔ ∃ a, a < 16 ∧ B.testBit a = true ∧ imgN t a = i := by
  unfold imB
  rw [List.any_eq_true]
  constructor
  · rintro ⟨a, h1, h2⟩
    rw [Bool.and_eq_true, decide_eq_true_eq] at h2
    exact ⟨a, List.mem_range.mp h1, h2.1, h2.2⟩
  · rintro ⟨a, h1, h2, h3⟩
    exact ⟨a, List.mem_range.mpr h1, by rw [Bool.and_eq_true, decide_eq_true_eq]; exact ⟨h2, h3⟩⟩
theorem ksym_iff {t B : Nat} : ksym B t = true ↔ ∀ i, i < 16 → imB t B 16 i = B.testBit i := by
  constructor
  · intro h i hi
    have := bAll_e h hi
    simpa using this
  · intro h
    unfold ksym bAll
    rw [List.all_eq_true]
    intro i hi
    rw [h i (List.mem_range.mp hi)]; simp
theorem ksym_0 (B : Nat) : ksym B 0 = true := by
  rw [ksym_iff]
  intro i hi
  rw [Bool.eq_iff_iff, imB_iff]
  constructor
  · rintro ⟨a, h1, h2, h3⟩
    rw [img_0 h1] at h3; subst h3; exact h2
  · intro h
    exact ⟨i, hi, h, img_0 hi⟩
theorem ksym_cmp {B t u : Nat} (ht : t < 8) (hu : u < 8) (h1 : ksym B t = true) (h2 : ksym B u = true) : ksym B (cmp8 t u) = true := by
  rw [ksym_iff] at h1 h2 ⊢
  have hc := (cmp_all ht hu).2.2.2.2
  intro i hi
  rw [← h1 i hi, Bool.eq_iff_iff, imB_iff, imB_iff]
  constructor
  · rintro ⟨a, a1, a2, a3⟩
    rw [hc a a1] at a3
    refine ⟨imgN u a, img_lt hu a1, ?_, a3⟩
    rw [← h2 _ (img_lt hu a1), imB_iff]
    exact ⟨a, a1, a2, rfl⟩
  · rintro ⟨b, b1, b2, b3⟩
    rw [← h2 b b1, imB_iff] at b2
    obtain ⟨a, a1, a2, a3⟩ := b2
    refine ⟨a, a1, a2, ?_⟩
    rw [hc a a1, a3, b3]
