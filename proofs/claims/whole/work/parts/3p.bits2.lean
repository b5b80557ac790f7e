/-! ===== what the sets of bits tell ===== -/
def md1 (x : Nat) : Bool := decide (x % 4 ≠ 3)
def md2 (x : Nat) : Bool := decide (x % 4 ≠ 0)
def md3 (x : Nat) : Bool := decide (x < 12)
def md4 (x : Nat) : Bool := decide (4 ≤ x)
def md5 (x : Nat) : Bool := md3 x && md1 x
def md6 (x : Nat) : Bool := md4 x && md2 x
def md7 (x : Nat) : Bool := md3 x && md2 x
def md8 (x : Nat) : Bool := md4 x && md1 x
def mkP (M : Nat) (p : Nat → Nat → Nat → Bool) : Bool := bAll 16 fun a => bAll 16 fun b => bAll 16 fun f => M.testBit (256 * a + 16 * b + f) == p a b f
theorem mkP_e {M : Nat} {p : Nat → Nat → Nat → Bool} (h : mkP M p = true) {a b f : Nat} (ha : a < 16) (hb : b < 16) (hf : f < 16) : M.testBit (256 * a + 16 * b + f) = p a b f := by
  have := bAll_e (bAll_e (bAll_e h ha) hb) hf
  simpa using this
theorem kF1_c : mkP kF1 (fun _ _ f => md1 f) = true := by decide +kernel
theorem kB1_c : mkP kB1 (fun _ b _ => md1 b) = true := by decide +kernel
theorem kA1_c : mkP kA1 (fun a _ _ => md1 a) = true := by decide +kernel
theorem kF2_c : mkP kF2 (fun _ _ f => md2 f) = true := by decide +kernel
theorem kB2_c : mkP kB2 (fun _ b _ => md2 b) = true := by decide +kernel
theorem kA2_c : mkP kA2 (fun a _ _ => md2 a) = true := by decide +kernel
theorem kF3_c : mkP kF3 (fun _ _ f => md3 f) = true := by decide +kernel
theorem kB3_c : mkP kB3 (fun _ b _ => md3 b) = true := by decide +kernel
theorem kA3_c : mkP kA3 (fun a _ _ => md3 a) = true := by decide +kernel
theorem kF4_c : mkP kF4 (fun _ _ f => md4 f) = true := by decide +kernel
theorem kB4_c : mkP kB4 (fun _ b _ => md4 b) = true := by decide +kernel
theorem kA4_c : mkP kA4 (fun a _ _ => md4 a) = true := by decide +kernel
theorem kF5_c : mkP kF5 (fun _ _ f => md5 f) = true := by decide +kernel
theorem kB5_c : mkP kB5 (fun _ b _ => md5 b) = true := by decide +kernel
theorem kA5_c : mkP kA5 (fun a _ _ => md5 a) = true := by decide +kernel
theorem kF6_c : mkP kF6 (fun _ _ f => md6 f) = true := by decide +kernel
theorem kB6_c : mkP kB6 (fun _ b _ => md6 b) = true := by decide +kernel
theorem kA6_c : mkP kA6 (fun a _ _ => md6 a) = true := by decide +kernel
theorem kF7_c : mkP kF7 (fun _ _ f => md7 f) = true := by decide +kernel
theorem kB7_c : mkP kB7 (fun _ b _ => md7 b) = true := by decide +kernel
theorem kA7_c : mkP kA7 (fun a _ _ => md7 a) = true := by decide +kernel
theorem kF8_c : mkP kF8 (fun _ _ f => md8 f) = true := by decide +kernel
theorem kB8_c : mkP kB8 (fun _ b _ => md8 b) = true := by decide +kernel
theorem kA8_c : mkP kA8 (fun a _ _ => md8 a) = true := by decide +kernel
theorem kC0_c : mkP kC0 (fun a b f => stp false a f || stp false b f) = true := by decide +kernel
theorem kC1_c : mkP kC1 (fun a b f => stp true a f || stp true b f) = true := by decide +kernel
theorem kV_c : mkP kV (fun a b f => decide (a ≠ b) && (decide (f ≠ a) && decide (f ≠ b))) = true := by decide +kernel
theorem kP_c : bAll 16 (fun k => mkP (kP k) (fun a b f => decide (a = k) || (decide (b = k) || decide (f = k)))) = true := by decide +kernel
theorem tb_sU (X k M i : Nat) : (Nat.land (Nat.shiftRight X k) M).testBit i = (X.testBit (k + i) && M.testBit i) := by
  show ((X >>> k) &&& M).testBit i = _
  rw [Nat.testBit_and, Nat.testBit_shiftRight]
theorem tb_sD (X k M i : Nat) : (Nat.land (Nat.shiftLeft X k) M).testBit i = ((decide (k ≤ i) && X.testBit (i - k)) && M.testBit i) := by
  show ((X <<< k) &&& M).testBit i = _
  rw [Nat.testBit_and, Nat.testBit_shiftLeft]
theorem tb_lor (X Y i : Nat) : (Nat.lor X Y).testBit i = (X.testBit i || Y.testBit i) := Nat.testBit_or X Y i
theorem tb_land (X Y i : Nat) : (Nat.land X Y).testBit i = (X.testBit i && Y.testBit i) := Nat.testBit_and X Y i
theorem tb_xor (X Y i : Nat) : (Nat.xor X Y).testBit i = (X.testBit i ^^ Y.testBit i) := Nat.testBit_xor X Y i
theorem up_ok {X i base u x d k M : Nat} {q : Bool} (hi : i = base + u * x) (hk : k = d * u) (hM : M.testBit i = q) : (Nat.land (Nat.shiftRight X k) M).testBit i = (X.testBit (base + u * (x + d)) && q) := by
  rw [tb_sU, hM, hi, hk, show d * u + (base + u * x) = base + u * (x + d) by rw [Nat.mul_add, Nat.mul_comm d u]; omega]
theorem dn_ok {X i base u x d k M : Nat} {q : Bool} (hi : i = base + u * x) (hk : k = d * u) (hM : M.testBit i = q) (hq : q = true → d ≤ x) : (Nat.land (Nat.shiftLeft X k) M).testBit i = (X.testBit (base + u * (x - d)) && q) := by
  rw [tb_sD, hM]
  cases q
  · rw [Bool.and_false, Bool.and_false]
  · have hd := hq rfl
    have e : u * x = u * (x - d) + d * u := by
      rw [Nat.mul_comm d u, ← Nat.mul_add, show x - d + d = x by omega]
    rw [decide_eq_true (show k ≤ i by rw [hi, hk, e]; omega), Bool.true_and, show i - k = base + u * (x - d) by rw [hi, hk, e]; omega]
def stE (x : Nat) (e : Nat → Bool) : Bool := ((e (x + 1) && md1 x) || (e (x - 1) && md2 x)) || ((e (x + 4) && md3 x) || (e (x - 4) && md4 x))
def coE (x : Nat) (e : Nat → Bool) : Bool := ((e (x + 5) && md5 x) || (e (x - 5) && md6 x)) || ((e (x + 3) && md7 x) || (e (x - 3) && md8 x))
theorem sF_ok {X i base u x k1 k4 M1 M2 M3 M4 : Nat} (hi : i = base + u * x) (h1 : k1 = 1 * u) (h4 : k4 = 4 * u) (m1 : M1.testBit i = md1 x) (m2 : M2.testBit i = md2 x) (m3 : M3.testBit i = md3 x) (m4 : M4.testBit i = md4 x) :
    (Nat.lor (Nat.lor (Nat.land (Nat.shiftRight X k1) M1) (Nat.land (Nat.shiftLeft X k1) M2)) (Nat.lor (Nat.land (Nat.shiftRight X k4) M3) (Nat.land (Nat.shiftLeft X k4) M4))).testBit i = stE x (fun t => X.testBit (base + u * t)) := by
  rw [tb_lor, tb_lor, tb_lor, up_ok hi h1 m1, dn_ok hi h1 m2 (fun h => by unfold md2 at h; rw [decide_eq_true_eq] at h; omega), up_ok hi h4 m3, dn_ok hi h4 m4 (fun h => by unfold md4 at h; rw [decide_eq_true_eq] at h; omega)]
  rfl
theorem cF_ok {X i base u x k1 k4 M1 M2 M3 M4 : Nat} (hi : i = base + u * x) (h1 : k1 = 5 * u) (h4 : k4 = 3 * u) (m1 : M1.testBit i = md5 x) (m2 : M2.testBit i = md6 x) (m3 : M3.testBit i = md7 x) (m4 : M4.testBit i = md8 x) :
    (Nat.lor (Nat.lor (Nat.land (Nat.shiftRight X k1) M1) (Nat.land (Nat.shiftLeft X k1) M2)) (Nat.lor (Nat.land (Nat.shiftRight X k4) M3) (Nat.land (Nat.shiftLeft X k4) M4))).testBit i = coE x (fun t => X.testBit (base + u * t)) := by
  rw [tb_lor, tb_lor, tb_lor, up_ok hi h1 m1, dn_ok hi h1 m2 (fun h => by unfold md6 md4 md2 at h; rw [Bool.and_eq_true, decide_eq_true_eq, decide_eq_true_eq] at h; omega), up_ok hi h4 m3, dn_ok hi h4 m4 (fun h => by unfold md8 md4 md1 at h; rw [Bool.and_eq_true, decide_eq_true_eq, decide_eq_true_eq] at h; omega)]
  rfl
def cor (a b : Nat) : Bool := decide (rowD a b = 1) && decide (colD a b = 1)
theorem st_c : bAll 16 (fun x => bAll 16 (fun t => stp false x t == stE x (fun y => y == t) && cor x t == coE x (fun y => y == t))) = true := by decide +kernel
theorem st_l : bAll 16 (fun x => (!md1 x || decide (x + 1 < 16)) && (!md3 x || decide (x + 4 < 16)) && (!md5 x || decide (x + 5 < 16)) && (!md7 x || decide (x + 3 < 16))) = true := by decide +kernel
theorem sE_iff {x : Nat} (hx : x < 16) (e : Nat → Bool) : stE x e = true ↔ ∃ t, t < 16 ∧ stp false x t = true ∧ e t = true := by
  have c := fun t ht => bAll_e (bAll_e st_c hx) (i := t) ht
  have l := bAll_e st_l hx
  simp only [Bool.and_eq_true, Bool.or_eq_true, Bool.not_eq_true', decide_eq_true_eq] at l
  constructor
  · intro h
    unfold stE at h
    simp only [Bool.or_eq_true, Bool.and_eq_true] at h
    have wit : ∀ t, t < 16 → e t = true → stE x (fun y => y == t) = true → ∃ t, t < 16 ∧ stp false x t = true ∧ e t = true := by
      intro t ht h1 h2
      have := c t ht
      simp only [Bool.and_eq_true, beq_iff_eq] at this
      exact ⟨t, ht, by rw [this.1]; exact h2, h1⟩
    rcases h with (⟨h1, h2⟩ | ⟨h1, h2⟩) | (⟨h1, h2⟩ | ⟨h1, h2⟩)
    · refine wit _ ?_ h1 (by unfold stE; simp [h2])
      rcases l.1.1.1 with q | q
      · rw [h2] at q; cases q
      · exact q
    · exact wit _ (by omega) h1 (by unfold stE; simp [h2])
    · refine wit _ ?_ h1 (by unfold stE; simp [h2])
      rcases l.1.1.2 with q | q
      · rw [h2] at q; cases q
      · exact q
    · exact wit _ (by omega) h1 (by unfold stE; simp [h2])
  · rintro ⟨t, ht, h1, h2⟩
    have := c t ht
    simp only [Bool.and_eq_true, beq_iff_eq] at this
    rw [this.1] at h1
    unfold stE at h1 ⊢
    simp only [Bool.or_eq_true, Bool.and_eq_true, beq_iff_eq] at h1 ⊢
    rcases h1 with (⟨h3, h4⟩ | ⟨h3, h4⟩) | (⟨h3, h4⟩ | ⟨h3, h4⟩)
    · exact Or.inl (Or.inl ⟨by rw [h3]; exact h2, h4⟩)
    · exact Or.inl (Or.inr ⟨by rw [h3]; exact h2, h4⟩)
    · exact Or.inr (Or.inl ⟨by rw [h3]; exact h2, h4⟩)
    · exact Or.inr (Or.inr ⟨by rw [h3]; exact h2, h4⟩)
theorem cE_iff {x : Nat} (hx : x < 16) (e : Nat → Bool) : coE x e = true ↔ ∃ t, t < 16 ∧ cor x t = true ∧ e t = true := by
  have c := fun t ht => bAll_e (bAll_e st_c hx) (i := t) ht
  have l := bAll_e st_l hx
  simp only [Bool.and_eq_true, Bool.or_eq_true, Bool.not_eq_true', decide_eq_true_eq] at l
  constructor
  · intro h
    unfold coE at h
    simp only [Bool.or_eq_true, Bool.and_eq_true] at h
    have wit : ∀ t, t < 16 → e t = true → coE x (fun y => y == t) = true → ∃ t, t < 16 ∧ cor x t = true ∧ e t = true := by
      intro t ht h1 h2
      have := c t ht
      simp only [Bool.and_eq_true, beq_iff_eq] at this
      exact ⟨t, ht, by rw [this.2]; exact h2, h1⟩
    rcases h with (⟨h1, h2⟩ | ⟨h1, h2⟩) | (⟨h1, h2⟩ | ⟨h1, h2⟩)
    · refine wit _ ?_ h1 (by unfold coE; simp [h2])
      rcases l.1.2 with q | q
      · rw [h2] at q; cases q
      · exact q
    · exact wit _ (by omega) h1 (by unfold coE; simp [h2])
    · refine wit _ ?_ h1 (by unfold coE; simp [h2])
      rcases l.2 with q | q
      · rw [h2] at q; cases q
      · exact q
    · exact wit _ (by omega) h1 (by unfold coE; simp [h2])
  · rintro ⟨t, ht, h1, h2⟩
    have := c t ht
    simp only [Bool.and_eq_true, beq_iff_eq] at this
    rw [this.2] at h1
    unfold coE at h1 ⊢
    simp only [Bool.or_eq_true, Bool.and_eq_true, beq_iff_eq] at h1 ⊢
    rcases h1 with (⟨h3, h4⟩ | ⟨h3, h4⟩) | (⟨h3, h4⟩ | ⟨h3, h4⟩)
    · exact Or.inl (Or.inl ⟨by rw [h3]; exact h2, h4⟩)
    · exact Or.inl (Or.inr ⟨by rw [h3]; exact h2, h4⟩)
    · exact Or.inr (Or.inl ⟨by rw [h3]; exact h2, h4⟩)
    · exact Or.inr (Or.inr ⟨by rw [h3]; exact h2, h4⟩)
theorem stp_or (c : Bool) (a b : Nat) : stp c a b = (stp false a b || (c && cor a b)) := by
  unfold stp cor
  simp
theorem scE_iff {x : Nat} (hx : x < 16) (c : Bool) (e : Nat → Bool) (S C : Nat → Bool) (i : Nat) (hS : S i = stE x e) (hC : C i = coE x e) : (if c = true then S i || C i else S i) = true ↔ ∃ t, t < 16 ∧ stp c x t = true ∧ e t = true := by
  cases c
  · rw [if_neg (by decide), hS]; exact sE_iff hx e
  · rw [if_pos rfl, hS, hC, Bool.or_eq_true, sE_iff hx e, cE_iff hx e]
    constructor
    · rintro (⟨t, h1, h2, h3⟩ | ⟨t, h1, h2, h3⟩)
      · exact ⟨t, h1, by rw [stp_or, h2]; rfl, h3⟩
      · exact ⟨t, h1, by rw [stp_or, h2]; simp, h3⟩
    · rintro ⟨t, h1, h2, h3⟩
      rw [stp_or, Bool.or_eq_true, Bool.true_and] at h2
      rcases h2 with h2 | h2
      · exact Or.inl ⟨t, h1, h2, h3⟩
      · exact Or.inr ⟨t, h1, h2, h3⟩
theorem tb_cond (c : Bool) (X Y i : Nat) : (cond c (Nat.lor X Y) X).testBit i = if c = true then X.testBit i || Y.testBit i else X.testBit i := by
  cases c
  · rfl
  · show (Nat.lor X Y).testBit i = _
    rw [tb_lor, if_pos rfl]
theorem mvF_iff (c : Bool) (X : Nat) {a b f : Nat} (ha : a < 16) (hb : b < 16) (hf : f < 16) : (mvF c X).testBit (256 * a + 16 * b + f) = true ↔ ∃ t, t < 16 ∧ stp c f t = true ∧ X.testBit (256 * a + 16 * b + t) = true := by
  unfold mvF mvFs mvFc
  rw [tb_cond, sF_ok (base := 256 * a + 16 * b) (u := 1) (x := f) (by omega) (by omega) (by omega) (mkP_e kF1_c ha hb hf) (mkP_e kF2_c ha hb hf) (mkP_e kF3_c ha hb hf) (mkP_e kF4_c ha hb hf), cF_ok (base := 256 * a + 16 * b) (u := 1) (x := f) (by omega) (by omega) (by omega) (mkP_e kF5_c ha hb hf) (mkP_e kF6_c ha hb hf) (mkP_e kF7_c ha hb hf) (mkP_e kF8_c ha hb hf)]
  rw [scE_iff hf c (fun t => X.testBit (256 * a + 16 * b + 1 * t)) (fun _ => stE f (fun t => X.testBit (256 * a + 16 * b + 1 * t))) (fun _ => coE f (fun t => X.testBit (256 * a + 16 * b + 1 * t))) 0 rfl rfl]
  have e : ∀ t, 256 * a + 16 * b + 1 * t = 256 * a + 16 * b + t := fun t => by omega
  simp only [e]
theorem mvB_iff (c : Bool) (X : Nat) {a b f : Nat} (ha : a < 16) (hb : b < 16) (hf : f < 16) : (mvB c X).testBit (256 * a + 16 * b + f) = true ↔ ∃ t, t < 16 ∧ stp c b t = true ∧ X.testBit (256 * a + 16 * t + f) = true := by
  unfold mvB mvBs mvBc
  rw [tb_cond, sF_ok (base := 256 * a + f) (u := 16) (x := b) (by omega) (by omega) (by omega) (mkP_e kB1_c ha hb hf) (mkP_e kB2_c ha hb hf) (mkP_e kB3_c ha hb hf) (mkP_e kB4_c ha hb hf), cF_ok (base := 256 * a + f) (u := 16) (x := b) (by omega) (by omega) (by omega) (mkP_e kB5_c ha hb hf) (mkP_e kB6_c ha hb hf) (mkP_e kB7_c ha hb hf) (mkP_e kB8_c ha hb hf)]
  rw [scE_iff hb c (fun t => X.testBit (256 * a + f + 16 * t)) (fun _ => stE b (fun t => X.testBit (256 * a + f + 16 * t))) (fun _ => coE b (fun t => X.testBit (256 * a + f + 16 * t))) 0 rfl rfl]
  have e : ∀ t, 256 * a + f + 16 * t = 256 * a + 16 * t + f := fun t => by omega
  simp only [e]
theorem mvA_iff (c : Bool) (X : Nat) {a b f : Nat} (ha : a < 16) (hb : b < 16) (hf : f < 16) : (mvA c X).testBit (256 * a + 16 * b + f) = true ↔ ∃ t, t < 16 ∧ stp c a t = true ∧ X.testBit (256 * t + 16 * b + f) = true := by
  unfold mvA mvAs mvAc
  rw [tb_cond, sF_ok (base := 16 * b + f) (u := 256) (x := a) (by omega) (by omega) (by omega) (mkP_e kA1_c ha hb hf) (mkP_e kA2_c ha hb hf) (mkP_e kA3_c ha hb hf) (mkP_e kA4_c ha hb hf), cF_ok (base := 16 * b + f) (u := 256) (x := a) (by omega) (by omega) (by omega) (mkP_e kA5_c ha hb hf) (mkP_e kA6_c ha hb hf) (mkP_e kA7_c ha hb hf) (mkP_e kA8_c ha hb hf)]
  rw [scE_iff ha c (fun t => X.testBit (16 * b + f + 256 * t)) (fun _ => stE a (fun t => X.testBit (16 * b + f + 256 * t))) (fun _ => coE a (fun t => X.testBit (16 * b + f + 256 * t))) 0 rfl rfl]
  have e : ∀ t, 16 * b + f + 256 * t = 256 * t + 16 * b + f := fun t => by omega
  simp only [e]
