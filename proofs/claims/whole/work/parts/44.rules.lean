abbrev oX8 (a : Nat → Nat) : va_E := .inr (8, [.ref (a 1), .ref (a 9), .ref (a 13), .ref (a 15), .ref (a 20), .ref (a 21), .ref (a 22), .ref (a 23), .ref (a 25), .ref (a 27), .ref (a 30)])
abbrev oX3 (a : Nat → Nat) : va_E := .inr (3, [.ref (a 2), .ref (a 3), .ref (a 4), .ref (a 5), .ref (a 6), .ref (a 7), .ref (a 8)])
abbrev oX0 (a : Nat → Nat) (c : Nat → Int32) : va_E := .inr (0, [.ref (a 1), .ref (a 10), .ref (a 11), .ref (a 12), .int (c 4), .int (c 5), .int (c 6), .int (c 7), .int (c 8)])
abbrev oX1 (a : Nat → Nat) (c : Nat → Int32) : va_E := .inr (1, [.ref (a 1), .ref (a 14), .int (c 2), .int (c 3)])
abbrev oX7 (a : Nat → Nat) (c : Nat → Int32) : va_E := .inr (7, [.ref (a 1), .ref (a 9), .ref (a 13), .ref (a 16), .ref (a 17), .ref (a 18), .ref (a 19), .int (c 7)])
abbrev oX2 (a : Nat → Nat) : va_E := .inr (2, [.ref (a 1), .ref (a 9)])
abbrev oX6 (c : Nat → Int32) : va_E := .inr (6, [.int (c 0), .int (c 1), .int (c 2), .int (c 3), .int (c 4), .int (c 5)])
abbrev oX4 (a : Nat → Nat) (c : Nat → Int32) : va_E := .inr (4, [.ref (a 24), .int (c 1)])
abbrev oX5 (a : Nat → Nat) (c : Nat → Int32) : va_E := .inr (5, [.ref (a 26), .int (c 1)])
abbrev oX9 (a : Nat → Nat) (c : Nat → Int32) : va_E := .inr (9, [.ref (a 32), .ref (a 33), .int (c 2), .int (c 3), .ref (a 34), .ref (a 35), .ref (a 36), .ref (a 37), .ref (a 38), .ref (a 39), .ref (a 40), .ref (a 41), .int (c 12), .ref (a 42), .ref (a 43), .ref (a 44), .int (c 16), .int (c 17), .int (c 18), .ref (a 45), .int (c 20)])
abbrev aI (E : xE) (n : Nat) (f : Nat → Int32) : va_E := .inl (xI E, n, .inl f)
abbrev aZ (E : xE) (n : Nat) (f : Nat → Int32) : va_E := .inl (xZ E, n, .inl f)
abbrev aC (E : xE) (n : Nat) (f : Nat → Int32) : va_E := .inl (xC E, n, .inl f)
abbrev xhf (ha : Nat → Nat) : Nat → Option Nat := fun i => if i < 6 then some (ha i) else none
abbrev xsl (a : Nat → Nat) : Nat → Option Nat := fun i => if i = 0 then some (a 28) else if i = 1 then some (a 29) else none
section RL0
variable {E : xE} {own : String} {cc : ByteArray} {R : Room} {nL : Nat} {ini : Bool} {V : xVT} {k n pc : Nat} {lo : xLo} {st : List Value} {ws : va_W}
theorem xr_pick (ws : va_W) : xpick ws (List.range ws.length) = ws := by
  unfold xpick
  apply List.ext_getElem
  · simp
  · intro i h1 h2
    simp [List.getElem?_eq_getElem h2]
theorem xr_all (ws : va_W) : (List.range ws.length).map (fun i => ws[i]?) = ws.map some := by
  apply List.ext_getElem
  · simp
  · intro i h1 h2
    simp at h1
    simp [List.getElem?_eq_getElem h1]
theorem xr_nd : ∀ l : List Nat, l.Nodup → va_nd l = true := by
  intro l
  induction l with
  | nil => intro _; rfl
  | cons a l ih =>
    intro h
    have h2 := List.nodup_cons.mp h
    simp [va_nd, h2.1, ih h2.2]
theorem Rl.callSI0 (r : Rl E own cc R nL ini V) {idx : Nat} {y : MethodName} {ccy : ByteArray} {nLy : Nat} {rt : FieldType} {d : Nat} {As rest : List Value} {v : Int32} {na : Nat} (hM : xMI (S := Unit) E y ccy nLy rt d 0 0 As [] (fun _ => v) (fun _ => [])) (g : xCS own idx y ccy nLy (some rt) na) (hn : As.length = na) (hd : decode cc pc = .ok (.invokestatic idx, 3)) (hst : st = As.reverse ++ rest) (hR : d + 1 ≤ R.frames ∧ 8 + (nLy + 11) + 30 * d ≤ R.locals) (hrm : (rest.map fun v => v.category).sum ≤ 8) (kk : V k n (pc + 3) lo (.int v :: rest) ws) (hc : k ≤ R.cells ∧ n ≤ R.slots := by exact ⟨Nat.le_of_ble_eq_true rfl, Nat.le_of_ble_eq_true rfl⟩) : V k n pc lo st ws :=
  r.callSI hM g hn hd hst hR hc hrm [] (List.range ws.length) rfl (by simp) rfl (xr_nd _ List.nodup_range) (fun _ _ h => nomatch h) (List.range ws.length) (xr_nd _ List.nodup_range) (ws2 := fun _ => ws) (fun _ => by rw [List.append_nil, xr_pick]; exact xr_all ws) (fun _ => kk)
theorem Rl.callSV0 (r : Rl E own cc R nL ini V) {idx : Nat} {y : MethodName} {ccy : ByteArray} {nLy : Nat} {d : Nat} {As rest : List Value} {na : Nat} (hM : xMV (S := Unit) E y ccy nLy d 0 0 As [] (fun _ => [])) (g : xCS own idx y ccy nLy none na) (hn : As.length = na) (hd : decode cc pc = .ok (.invokestatic idx, 3)) (hst : st = As.reverse ++ rest) (hR : d + 1 ≤ R.frames ∧ 8 + (nLy + 11) + 30 * d ≤ R.locals) (hrm : (rest.map fun v => v.category).sum ≤ 8) (kk : V k n (pc + 3) lo rest ws) (hc : k ≤ R.cells ∧ n ≤ R.slots := by exact ⟨Nat.le_of_ble_eq_true rfl, Nat.le_of_ble_eq_true rfl⟩) : V k n pc lo st ws :=
  r.callSV hM g hn hd hst hR hc hrm [] (List.range ws.length) rfl (by simp) rfl (xr_nd _ List.nodup_range) (fun _ _ h => nomatch h) (List.range ws.length) (xr_nd _ List.nodup_range) (ws2 := fun _ => ws) (fun _ => by rw [List.append_nil, xr_pick]; exact xr_all ws) (fun _ => kk)
end RL0
section RLW
variable {E : xE} {own : String} {cc : ByteArray} {R : Room} {nL : Nat} {ini : Bool} {V : xVT} {k n pc : Nat} {lo : xLo} {st : List Value} {ws : va_W}
theorem Rl.pmw (r : Rl E own cc R nL ini V) {ws' : va_W} (is : List Nat) (hn : va_nd is = true) (h : is.map (fun i => ws[i]?) = ws'.map some) (kk : V k n pc lo st ws') : V k n pc lo st ws := by
  obtain ⟨p, e, s, m, args, below, meth, c, A, Q, ⟨hx, hb, hml, hown, hts⟩, hK, hA, hi, rfl⟩ := r
  exact fun H locs ls hP hD hS hl => kk H locs ls (xP_sub hP is h) (hD.sub is hn h) hS hl
theorem Rl.weq (_ : Rl E own cc R nL ini V) {ws' : va_W} (h : ws = ws') (kk : V k n pc lo st ws') : V k n pc lo st ws := h ▸ kk
end RLW
def xad (l : List (Nat × Nat)) : Nat → Nat := fun k => (l.lookup k).getD 0
