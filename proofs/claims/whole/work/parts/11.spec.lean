/-! ===== the game, in numbers ===== -/
def loL : List Nat := [0, 0, 0, 0, 0, 0, 0, 0, 0, 0, 0, 0, 0, 0, 0, 1, 1, 1, 1, 1, 1, 1, 1, 1, 1, 1, 1, 1, 1, 2, 2, 2, 2, 2, 2, 2, 2, 2, 2, 2, 2, 2, 3, 3, 3, 3, 3, 3, 3, 3, 3, 3, 3, 3, 4, 4, 4, 4, 4, 4, 4, 4, 4, 4, 4, 5, 5, 5, 5, 5, 5, 5, 5, 5, 5, 6, 6, 6, 6, 6, 6, 6, 6, 6, 7, 7, 7, 7, 7, 7, 7, 7, 8, 8, 8, 8, 8, 8, 8, 9, 9, 9, 9, 9, 9, 10, 10, 10, 10, 10, 11, 11, 11, 11, 12, 12, 12, 13, 13, 14]
def hiL : List Nat := [1, 2, 3, 4, 5, 6, 7, 8, 9, 10, 11, 12, 13, 14, 15, 2, 3, 4, 5, 6, 7, 8, 9, 10, 11, 12, 13, 14, 15, 3, 4, 5, 6, 7, 8, 9, 10, 11, 12, 13, 14, 15, 4, 5, 6, 7, 8, 9, 10, 11, 12, 13, 14, 15, 5, 6, 7, 8, 9, 10, 11, 12, 13, 14, 15, 6, 7, 8, 9, 10, 11, 12, 13, 14, 15, 7, 8, 9, 10, 11, 12, 13, 14, 15, 8, 9, 10, 11, 12, 13, 14, 15, 9, 10, 11, 12, 13, 14, 15, 10, 11, 12, 13, 14, 15, 11, 12, 13, 14, 15, 12, 13, 14, 15, 13, 14, 15, 14, 15, 15]
def loP (p : Nat) : Nat := loL.getD p 0
def hiP (p : Nat) : Nat := hiL.getD p 0
def rowD (a b : Nat) : Nat := (a / 4 - b / 4) + (b / 4 - a / 4)
def colD (a b : Nat) : Nat := (a % 4 - b % 4) + (b % 4 - a % 4)
def farN (a b : Nat) : Nat := rowD a b + colD a b
def stp (c : Bool) (a b : Nat) : Bool := decide (farN a b = 1) || (c && (decide (rowD a b = 1) && decide (colD a b = 1)))
/-- the number of a pair, the lower one first -/
def prL (a b : Nat) : Nat := a * (31 - a) / 2 + b - a - 1
def prN (a b : Nat) : Nat := prL (min a b) (max a b)
def imgN (t a : Nat) : Nat :=
  let r := if t % 2 = 1 then 3 - a / 4 else a / 4
  let c := if t / 2 % 2 = 1 then 3 - a % 4 else a % 4
  if t / 4 % 2 = 1 then 4 * c + r else 4 * r + c
def bfr (B i : Nat) : Bool := !B.testBit i
/-- a number is a position's -/
def isPos (B n : Nat) : Bool := decide (n < 4096) && (decide (n % 128 < 120) && (bfr B (n / 128 % 16) && (bfr B (loP (n % 128)) && (bfr B (hiP (n % 128)) && (decide (n / 128 % 16 ≠ loP (n % 128)) && decide (n / 128 % 16 ≠ hiP (n % 128)))))))
/-- a step of one hunter leads to what q knows -/
def hStep (q : Nat → Bool) (s B f m o : Nat) : Bool := (List.range 16).any fun t => bfr B t && (decide (t ≠ o) && (decide (t ≠ f) && (stp (s.testBit 1) m t && q (2048 + 128 * f + prN t o))))
def hCatch (s f p : Nat) : Bool := stp (s.testBit 1) (loP p) f || stp (s.testBit 1) (hiP p) f
def fEsc (q : Nat → Bool) (s B f p : Nat) : Bool := (List.range 16).all fun t => !(bfr B t && (decide (t ≠ loP p) && (decide (t ≠ hiP p) && stp (s.testBit 0) f t))) || q (128 * t + p)
/-- known with less than r moves -/
def Kn (s B : Nat) : Nat → Nat → Bool
  | 0, _ => false
  | r + 1, n => isPos B n && (if n < 2048 then (decide (1 ≤ r) && hCatch s (n / 128 % 16) (n % 128)) || (hStep (Kn s B r) s B (n / 128 % 16) (loP (n % 128)) (hiP (n % 128)) || (hStep (Kn s B r) s B (n / 128 % 16) (hiP (n % 128)) (loP (n % 128)) || (s.testBit 2 && Kn s B r (n + 2048))))
      else fEsc (Kn s B r) s B (n / 128 % 16) (n % 128))
/-- the first r at which n is known, below a bound -/
def fstK (q : Nat → Bool) : Nat → Option Nat
  | 0 => none
  | r + 1 => match fstK q r with
    | some x => some x
    | none => if q (r + 1) then some r else none
def Dn (s B n : Nat) : Option Nat := fstK (fun r => Kn s B r n) 60
def dI (d : Option Nat) : Int32 := match d with
  | some r => nI r
  | none => -6
/-! ===== the tables that the constructors write ===== -/
def gG : Mem := (xt_X3_init).getD (fun _ _ => 0)
def gM : Mem := (xt_X9_init).getD (fun _ _ => 0)
def bAll (n : Nat) (p : Nat → Bool) : Bool := (List.range n).all p
theorem bAll_e {n : Nat} {p : Nat → Bool} (h : bAll n p = true) {i : Nat} (hi : i < n) : p i = true := List.all_eq_true.mp h i (List.mem_range.mpr hi)
theorem gG_some : xt_X3_init = some gG := by
  have h : xt_X3_init.isSome = true := by decide +kernel
  unfold gG
  cases e : xt_X3_init with
  | none => rw [e] at h; cases h
  | some o => rfl
theorem gM_some : xt_X9_init = some gM := by
  have h : xt_X9_init.isSome = true := by decide +kernel
  unfold gM
  cases e : xt_X9_init with
  | none => rw [e] at h; cases h
  | some o => rfl
set_option maxRecDepth 100000 in
theorem gG_chk : (bAll 16 (fun a => bAll 32 (fun i => bt (gG 2 a) i == (decide (i < 16) && decide (farN a i = 1)) && bt (gG 3 a) i == (decide (i < 16) && (decide (rowD a i = 1) && decide (colD a i = 1)))))) = true := by decide +kernel
set_option maxRecDepth 100000 in
theorem gG_chk2 : (bAll 16 (fun a => bAll 16 (fun b => a == b || gG 4 (16 * a + b) == nI (prN a b)))) = true := by decide +kernel
set_option maxRecDepth 100000 in
theorem gG_chk3 : (bAll 120 (fun p => gG 5 p == nI (loP p) && (gG 6 p == nI (hiP p) && bAll 32 (fun i => bt (gG 7 p) i == (decide (i < 16) && (decide (i = loP p) || decide (i = hiP p))))))) = true := by decide +kernel
set_option maxRecDepth 100000 in
theorem gG_chk4 : (bAll 8 (fun t => bAll 16 (fun a => gG 8 (16 * t + a) == nI (imgN t a)))) = true := by decide +kernel
set_option maxRecDepth 100000 in
theorem gM_chk : (bAll 120 (fun p => gM 36 p == nI (loP p) && gM 37 p == nI (hiP p))) = true := by decide +kernel
set_option maxRecDepth 100000 in
theorem pr_chk : (bAll 120 (fun p => decide (loP p < hiP p) && (decide (hiP p < 16) && decide (prN (loP p) (hiP p) = p)))) = true := by decide +kernel
set_option maxRecDepth 100000 in
theorem pr_chk2 : (bAll 16 (fun a => bAll 16 (fun b => a == b || (decide (prN a b < 120) && (decide (loP (prN a b) = min a b) && decide (hiP (prN a b) = max a b)))))) = true := by decide +kernel
