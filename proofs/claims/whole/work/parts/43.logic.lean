abbrev xE : Type := Launch × va_G × ClassId × ClassId × ClassId × ClassId
abbrev xI (E : xE) : ClassId := E.2.2.1
abbrev xZ (E : xE) : ClassId := E.2.2.2.1
abbrev xC (E : xE) : ClassId := E.2.2.2.2.1
abbrev xO (E : xE) : ClassId := E.2.2.2.2.2
abbrev xT (E : xE) : List (ClassId × FieldType) := [(xI E, .int), (xZ E, .boolean), (xC E, .char), (xO E, .object RX6)]
/-- what is known of the tables beside the words: the classes, the array classes, two links between nest mates -/
def xK (E : xE) (U : State) : Prop := va_K E.2.1 vwCl (xT E) U ∧ va_Nw (.methodLinkNest RX8 52 yX6_init "BoardEnds") U ∧ va_Nw (.methodLinkNest RX4 15 yX6_init "BoardEnds") U ∧ va_AO RX6 U
theorem xK.calling {E : xE} {U : State} {g : JFrame} {mk : MethodId} {a : Array Value} (h : xK E U) : xK E (U.calling g mk a) :=
  ⟨va_K.moved (u := U) (U := U.calling g mk a) (Vm.Alike.refl U.vm) h.1, va_Nw.same (u := U) (U := U.calling g mk a) rfl rfl h.2.1, va_Nw.same (u := U) (U := U.calling g mk a) rfl rfl h.2.2.1, va_AO.moved (u := U) (U := U.calling g mk a) (Vm.Alike.refl U.vm) h.2.2.2⟩
theorem xK.warm {E : xE} {s U : State} (hW : s.WarmedH U.vm) (h : xK E s) : xK E U :=
  ⟨va_K.moved hW.alike h.1, va_Nw.warmM hW h.2.1, va_Nw.warmM hW h.2.2.1, va_AO.moved hW.alike h.2.2.2⟩
abbrev xR (d mc ms : Nat) : Room := { frames := d, cells := mc, slots := ms, locals := 30 * d }
def xPc (E : xE) (As : List Value) (wc : va_W) (sz : Nat) : Array Value → State → Prop := va_Pc As (fun U => U.heap.size = sz ∧ va_P E.2.1 vwCl wc U.heap ∧ xK E U ∧ va_D (fun _ => True) wc)
abbrev xQI {S : Type} (E : xE) (r : S → Int32) (w1 : S → va_W) (wc : va_W) (sz : Nat) : Array Value → State → Outcome → State → Prop := va_Qi (fun (r' : Int32) (u : S) => r' = r u) (fun u t => va_P E.2.1 vwCl (w1 u) t.heap ∧ va_D (va_A wc sz) (w1 u)) (va_A wc sz)
abbrev xQV {S : Type} (E : xE) (w1 : S → va_W) (wc : va_W) (sz : Nat) : Array Value → State → Outcome → State → Prop := va_Qv (fun (_ : S) => True) (fun u t => va_P E.2.1 vwCl (w1 u) t.heap ∧ va_D (va_A wc sz) (w1 u)) (va_A wc sz)
/-- a method's contract: an int comes back -/
def xMI {S : Type} (E : xE) (y : MethodName) (cc : ByteArray) (nL : Nat) (rt : FieldType) (d mc ms : Nat) (As : List Value) (wc : va_W) (r : S → Int32) (w1 : S → va_W) : Prop :=
  ∀ sz : Nat, Met E.1 y (Cond.code y cc nL (some rt) :: gw) (xR d mc ms) (xPc E As wc sz) (xQI E r w1 wc sz) mc ms (va_A wc sz)
/-- a method's contract: nothing comes back -/
def xMV {S : Type} (E : xE) (y : MethodName) (cc : ByteArray) (nL : Nat) (d mc ms : Nat) (As : List Value) (wc : va_W) (w1 : S → va_W) : Prop :=
  ∀ sz : Nat, Met E.1 y (Cond.code y cc nL none :: gw) (xR d mc ms) (xPc E As wc sz) (xQV E w1 wc sz) mc ms (va_A wc sz)
abbrev xLo : Type := List (Nat × Value)
abbrev xVT : Type := Nat → Nat → Nat → xLo → List Value → va_W → Prop
def xV (E : xE) (p : Program) (e : Env) (R : Room) (s : State) (m : MethodId) (args : Array Value) (below : List Frame) (meth : Method) (c : Code) (nL : Nat) (A : Nat → Prop) (Q : State → Prop) : xVT := fun k n pc lo st ws =>
  ∀ (H : Heap) (locs : List Loc) (ls : Array Slot), va_P E.2.1 vwCl ws H → va_D A ws → va_S A s.heap H locs → lv_has ls nL lo → W p E.1 e R s m args below meth c H locs k n Q (F0 m pc ls st)
def Rl (E : xE) (own : String) (cc : ByteArray) (R : Room) (nL : Nat) (ini : Bool) (V : xVT) : Prop :=
  ∃ (p : Program) (e : Env) (s : State) (m : MethodId) (args : Array Value) (below : List Frame) (meth : Method) (c : Code) (A : Nat → Prop) (Q : State → Prop),
    (p.tables.exec = Jvm.exec ∧ c.code = cc ∧ c.maxLocals = nL ∧ s.vm.findClass own = some m.cls ∧ ∀ w ∈ gw, w.before args s = true) ∧ xK E s ∧ (∀ q, s.heap.size ≤ q → A q) ∧ (ini = true → meth.name = "<init>") ∧ V = xV E p e R s m args below meth c nL A Q
def RtI (cc : ByteArray) (V : xVT) (rt : FieldType) (mc ms : Nat) (Z : Int32 → va_W → Prop) : Prop := ∀ (pc : Nat) (lo : xLo) (v : Int32) (ws : va_W), decode cc pc = .ok (.ireturn, 1) → narrow rt (.int v) = .int v → Z v ws → V mc ms pc lo [.int v] ws
def RtV (cc : ByteArray) (V : xVT) (mc ms : Nat) (Z : va_W → Prop) : Prop := ∀ (pc : Nat) (lo : xLo) (ws : va_W), decode cc pc = .ok (.return_, 1) → Z ws → V mc ms pc lo [] ws
theorem xMet_ofW {y : MethodName} {ws ws' : List Cond} {rm : Room} {Pc : Array Value → State → Prop} {Qc : Array Value → State → Outcome → State → Prop} {mc ms : Nat} {free : Addr → Prop} {cc : ByteArray} {maxL : Nat} {ret : Option FieldType} {l : Launch}
    (hy : plainFor y = true) (hw : ws = Cond.code y cc maxL ret :: ws')
    (body : ∀ p e s m args below meth c s₁, BodyLoose p l y (headSpec ws rm) cc maxL ret e s m args below meth c s₁ → c.maxLocals = maxL → Pc args s →
      W p l e (headSpec ws rm).room s m args below meth c s.heap [] 0 0 (MQ below Qc args s mc ms free) (entryFrame m args maxL)) : Met l y ws rm Pc Qc mc ms free := by
  refine MetFree.of_bodySF (code := cc) (maxLocals := maxL) (ret := ret) hy ?_ ?_
  · intro args s m h hn
    obtain ⟨meth, c, h1, h2, h3, h4, h5, h6, -, -⟩ := Cond.code_spec hn (atoms_spec (ws := ws) h _ (by rw [hw]; exact List.mem_cons_self))
    exact ⟨meth, c, h1, h2, h3, h4, h5, h6⟩
  · intro p e s m args below meth c s₁ B hml hP _
    have hh0 : s₁.heap = s.heap := by rw [B.state]; rfl
    obtain ⟨t, a1, o, b1, b2, b3⟩ := body p e s m args below meth c s₁ B hml hP s₁ hh0 (Stand.of_body B)
    exact ⟨t, o, a1, b1, b2, ⟨b3.1, b3.2⟩⟩
theorem xMI.of {S : Type} {E : xE} {y : MethodName} {cc : ByteArray} {nL : Nat} {rt : FieldType} {d mc ms : Nat} {As : List Value} {wc : va_W} {r : S → Int32} {w1 : S → va_W} {own : String} {lo0 : xLo} (hy : plainFor y = true) (hown : y.cls = own) (hla : lv_args 0 As = lo0) (hn : (lg_sl As).length ≤ nL)
    (walk : ∀ V : xVT, Rl E own cc (xR d mc ms) nL false V → RtI cc V rt mc ms (fun v ws => ∃ u : S, v = r u ∧ ws = w1 u) → V 0 0 0 lo0 [] wc) : xMI E y cc nL rt d mc ms As wc r w1 := by
  intro sz
  refine xMet_ofW (cc := cc) (maxL := nL) (ret := some rt) hy rfl ?_
  intro p e s m args below meth c s₁ B hml hv
  obtain ⟨rfl, hsz, hP, hK, hD0⟩ := hv
  have hts := atoms_spec (ws := Cond.code y cc nL (some rt) :: gw) B.pre
  have hown' : s.vm.findClass own = some m.cls := by rw [← hown]; exact findClass_of_methodNamed B.named
  subst hsz
  have hD := hD0.self (sz := s.heap.size)
  have K := walk (xV E p e (xR d mc ms) s m As.toArray below meth c nL (va_A wc s.heap.size) (MQ below (xQI E r w1 wc s.heap.size) As.toArray s mc ms (va_A wc s.heap.size))) ⟨p, e, s, m, _, below, meth, c, va_A wc s.heap.size, _, ⟨B.exec, B.bytes, hml, hown', fun w h => hts w (List.mem_cons_of_mem _ h)⟩, hK, (fun q h => Or.inr h), (fun h => by cases h), rfl⟩
    (fun pc lo v ws hdg hnar hZ H locs ls hP hD hS hl => by
      obtain ⟨u, hu1, hu2⟩ := hZ
      subst hu1; subst hu2
      exact W.zret B.exec B.bytes B.returns hnar (fun t ht hW => ⟨⟨r u, u, rfl, rfl, by rw [ht]; exact hP, hD⟩, hS.F ht⟩) hS.2.2 hdg B.notSynchronized)
  have hl := lv_entry As (n := nL) hn
  rw [hla] at hl
  rw [lg_entry_eq]
  exact K _ _ _ hP hD va_S.rf hl
theorem xMV.of {S : Type} {E : xE} {y : MethodName} {cc : ByteArray} {nL : Nat} {d mc ms : Nat} {As : List Value} {wc : va_W} {w1 : S → va_W} {own : String} {lo0 : xLo} {ini : Bool} (hini : ini = true → y.name = "<init>") (hy : plainFor y = true) (hown : y.cls = own) (hla : lv_args 0 As = lo0) (hn : (lg_sl As).length ≤ nL)
    (walk : ∀ V : xVT, Rl E own cc (xR d mc ms) nL ini V → RtV cc V mc ms (fun ws => ∃ u : S, ws = w1 u) → V 0 0 0 lo0 [] wc) : xMV E y cc nL d mc ms As wc w1 := by
  intro sz
  refine xMet_ofW (cc := cc) (maxL := nL) (ret := none) hy rfl ?_
  intro p e s m args below meth c s₁ B hml hv
  obtain ⟨rfl, hsz, hP, hK, hD0⟩ := hv
  have hts := atoms_spec (ws := Cond.code y cc nL none :: gw) B.pre
  have hown' : s.vm.findClass own = some m.cls := by rw [← hown]; exact findClass_of_methodNamed B.named
  subst hsz
  have hD := hD0.self (sz := s.heap.size)
  have K := walk (xV E p e (xR d mc ms) s m As.toArray below meth c nL (va_A wc s.heap.size) (MQ below (xQV E w1 wc s.heap.size) As.toArray s mc ms (va_A wc s.heap.size))) ⟨p, e, s, m, _, below, meth, c, va_A wc s.heap.size, _, ⟨B.exec, B.bytes, hml, hown', fun w h => hts w (List.mem_cons_of_mem _ h)⟩, hK, (fun q h => Or.inr h), (fun h => (name_of_methodNamed B.named B.method).1.trans (hini h)), rfl⟩
    (fun pc lo ws hdg hZ H locs ls hP hD hS hl => by
      obtain ⟨u, hu2⟩ := hZ
      subst hu2
      exact W.vret B.exec B.bytes B.returns (fun t ht hW => ⟨⟨u, rfl, trivial, by rw [ht]; exact hP, hD⟩, hS.F ht⟩) hS.2.2 hdg B.notSynchronized)
  have hl := lv_entry As (n := nL) hn
  rw [hla] at hl
  rw [lg_entry_eq]
  exact K _ _ _ hP hD va_S.rf hl
theorem xP_sub {D : va_G} {cl : List vw_C} {ws ws' : va_W} {H : Heap} (h : va_P D cl ws H) (is : List Nat) (hs : is.map (fun i => ws[i]?) = ws'.map some) : va_P D cl ws' H := by
  intro k q hk
  have h1 : (is.map (fun i => ws[i]?))[k]? = some (some q) := by rw [hs, List.getElem?_map, hk]; rfl
  rw [List.getElem?_map] at h1
  cases hi : is[k]? with
  | none => rw [hi] at h1; cases h1
  | some i => rw [hi] at h1; exact h i q (Option.some.inj h1)
-- what an extracted function says
def xpick (ws : va_W) (l : List Nat) : va_W := l.map (fun i => ws.getD i (0, .inr (0, [])))
theorem xpick_e {ws : va_W} {l : List Nat} (h : l.all (fun i => decide (i < ws.length)) = true) : l.map (fun i => ws[i]?) = (xpick ws l).map some := by
  unfold xpick
  rw [List.map_map]
  apply List.map_congr_left
  intro i hi
  have h1 := List.all_eq_true.mp h i hi
  have h2 : i < ws.length := by simpa using h1
  simp [List.getElem?_eq_getElem h2]
section RL
variable {E : xE} {own : String} {cc : ByteArray} {R : Room} {nL : Nat} {ini : Bool} {V : xVT} {k n pc : Nat} {lo : xLo} {st : List Value} {ws : va_W}
theorem Rl.rel (r : Rl E own cc R nL ini V) {lo' : xLo} (is : List Nat) (h : lv_pick lo is = lo') (kk : V k n pc lo' st ws) : V k n pc lo st ws := by
  obtain ⟨p, e, s, m, args, below, meth, c, A, Q, ⟨hx, hb, hml, hown, hts⟩, hK, hA, hi, rfl⟩ := r
  exact fun H locs ls hP hD hS hl => kk H locs ls hP hD hS (lv_sub hl is h)
theorem Rl.iconst (r : Rl E own cc R nL ini V) {v : Int32} {z : Int} (hd : decode cc pc = .ok (.iconst z, 1)) (hv : Int32.ofInt z = v) (kk : V k n (pc + 1) lo (.int v :: st) ws) : V k n pc lo st ws := by
  obtain ⟨p, e, s, m, args, below, meth, c, A, Q, ⟨hx, hb, hml, hown, hts⟩, hK, hA, hi, rfl⟩ := r
  exact fun H locs ls hP hD hS hl => lv_iconst hx hb hd hv (kk H locs ls hP hD hS hl)
theorem Rl.bipush (r : Rl E own cc R nL ini V) {v : Int32} {z : Int} (hd : decode cc pc = .ok (.bipush z, 2)) (hv : (Int8.ofInt z).toInt32 = v) (kk : V k n (pc + 2) lo (.int v :: st) ws) : V k n pc lo st ws := by
  obtain ⟨p, e, s, m, args, below, meth, c, A, Q, ⟨hx, hb, hml, hown, hts⟩, hK, hA, hi, rfl⟩ := r
  exact fun H locs ls hP hD hS hl => lv_bipush hx hb hd hv (kk H locs ls hP hD hS hl)
theorem Rl.sipush (r : Rl E own cc R nL ini V) {v : Int32} {z : Int} (hd : decode cc pc = .ok (.sipush z, 3)) (hv : (Int16.ofInt z).toInt32 = v) (kk : V k n (pc + 3) lo (.int v :: st) ws) : V k n pc lo st ws := by
  obtain ⟨p, e, s, m, args, below, meth, c, A, Q, ⟨hx, hb, hml, hown, hts⟩, hK, hA, hi, rfl⟩ := r
  exact fun H locs ls hP hD hS hl => lv_sipush hx hb hd hv (kk H locs ls hP hD hS hl)
theorem Rl.lconst (r : Rl E own cc R nL ini V) {v : Int64} {z : Fin 2} (hd : decode cc pc = .ok (.lconst z, 1)) (hv : Int64.ofNat (z : Nat) = v) (kk : V k n (pc + 1) lo (.long v :: st) ws) : V k n pc lo st ws := by
  obtain ⟨p, e, s, m, args, below, meth, c, A, Q, ⟨hx, hb, hml, hown, hts⟩, hK, hA, hi, rfl⟩ := r
  exact fun H locs ls hP hD hS hl => lv_lconst hx hb hd hv (kk H locs ls hP hD hS hl)
theorem Rl.ldc (r : Rl E own cc R nL ini V) {v : Int32} {idx : Nat} (hd : decode cc pc = .ok (.ldc idx, 2)) (hw : Cond.constant own idx v ∈ gw) (kk : V k n (pc + 2) lo (.int v :: st) ws) : V k n pc lo st ws := by
  obtain ⟨p, e, s, m, args, below, meth, c, A, Q, ⟨hx, hb, hml, hown, hts⟩, hK, hA, hi, rfl⟩ := r
  exact fun H locs ls hP hD hS hl => lv_ldc hx hb hown (hts _ hw) hd (kk H locs ls hP hD hS hl)
theorem Rl.ldc_w (r : Rl E own cc R nL ini V) {v : Int32} {idx : Nat} (hd : decode cc pc = .ok (.ldc_w idx, 3)) (hw : Cond.constant own idx v ∈ gw) (kk : V k n (pc + 3) lo (.int v :: st) ws) : V k n pc lo st ws := by
  obtain ⟨p, e, s, m, args, below, meth, c, A, Q, ⟨hx, hb, hml, hown, hts⟩, hK, hA, hi, rfl⟩ := r
  exact fun H locs ls hP hD hS hl => lv_ldcw hx hb hown (hts _ hw) hd (kk H locs ls hP hD hS hl)
theorem Rl.ldc2 (r : Rl E own cc R nL ini V) {v : Int64} {idx : Nat} (hd : decode cc pc = .ok (.ldc2_w idx, 3)) (hw : Cond.constantLong own idx v ∈ gw) (kk : V k n (pc + 3) lo (.long v :: st) ws) : V k n pc lo st ws := by
  obtain ⟨p, e, s, m, args, below, meth, c, A, Q, ⟨hx, hb, hml, hown, hts⟩, hK, hA, hi, rfl⟩ := r
  exact fun H locs ls hP hD hS hl => lv_ldc2 hx hb hown (hts _ hw) hd (kk H locs ls hP hD hS hl)
theorem Rl.iload_n (r : Rl E own cc R nL ini V) {x : Int32} {i : Fin 4} (j : Nat) (hd : decode cc pc = .ok (.iload_n i, 1)) (hj : lo[j]? = some (i.val, .int x)) (kk : V k n (pc + 1) lo (.int x :: st) ws) : V k n pc lo st ws := by
  obtain ⟨p, e, s, m, args, below, meth, c, A, Q, ⟨hx, hb, hml, hown, hts⟩, hK, hA, hi, rfl⟩ := r
  exact fun H locs ls hP hD hS hl => lv_iload_n hx hb hd rfl (lv_at hl j hj) (kk H locs ls hP hD hS hl)
theorem Rl.iload (r : Rl E own cc R nL ini V) {x : Int32} {i : Nat} (j : Nat) (hd : decode cc pc = .ok (.iload i, 2)) (hj : lo[j]? = some (i, .int x)) (kk : V k n (pc + 2) lo (.int x :: st) ws) : V k n pc lo st ws := by
  obtain ⟨p, e, s, m, args, below, meth, c, A, Q, ⟨hx, hb, hml, hown, hts⟩, hK, hA, hi, rfl⟩ := r
  exact fun H locs ls hP hD hS hl => lv_iload hx hb hd (lv_at hl j hj) (kk H locs ls hP hD hS hl)
theorem Rl.lload_n (r : Rl E own cc R nL ini V) {x : Int64} {i : Fin 4} (j : Nat) (hd : decode cc pc = .ok (.lload_n i, 1)) (hj : lo[j]? = some (i.val, .long x)) (kk : V k n (pc + 1) lo (.long x :: st) ws) : V k n pc lo st ws := by
  obtain ⟨p, e, s, m, args, below, meth, c, A, Q, ⟨hx, hb, hml, hown, hts⟩, hK, hA, hi, rfl⟩ := r
  exact fun H locs ls hP hD hS hl => lv_lload_n hx hb hd rfl (lv_at hl j hj) (kk H locs ls hP hD hS hl)
theorem Rl.lload (r : Rl E own cc R nL ini V) {x : Int64} {i : Nat} (j : Nat) (hd : decode cc pc = .ok (.lload i, 2)) (hj : lo[j]? = some (i, .long x)) (kk : V k n (pc + 2) lo (.long x :: st) ws) : V k n pc lo st ws := by
  obtain ⟨p, e, s, m, args, below, meth, c, A, Q, ⟨hx, hb, hml, hown, hts⟩, hK, hA, hi, rfl⟩ := r
  exact fun H locs ls hP hD hS hl => lv_lload hx hb hd (lv_at hl j hj) (kk H locs ls hP hD hS hl)
theorem Rl.aload_n (r : Rl E own cc R nL ini V) {x : Nat} {i : Fin 4} (j : Nat) (hd : decode cc pc = .ok (.aload_n i, 1)) (hj : lo[j]? = some (i.val, .ref x)) (kk : V k n (pc + 1) lo (.ref x :: st) ws) : V k n pc lo st ws := by
  obtain ⟨p, e, s, m, args, below, meth, c, A, Q, ⟨hx, hb, hml, hown, hts⟩, hK, hA, hi, rfl⟩ := r
  exact fun H locs ls hP hD hS hl => lv_aload_n hx hb hd rfl (lv_at hl j hj) (kk H locs ls hP hD hS hl)
theorem Rl.istore_n (r : Rl E own cc R nL ini V) {x : Int32} {i : Fin 4} {lo' : xLo} (hd : decode cc pc = .ok (.istore_n i, 1)) (hn : i.val < nL) (hlo : (i.val, Value.int x) :: lo.filter (fun q => !(q.1 == i.val) && !(q.1 + 1 == i.val && q.2.category == 2)) = lo') (kk : V k n (pc + 1) lo' st ws) : V k n pc lo (.int x :: st) ws := by
  obtain ⟨p, e, s, m, args, below, meth, c, A, Q, ⟨hx, hb, hml, hown, hts⟩, hK, hA, hi, rfl⟩ := r
  exact fun H locs ls hP hD hS hl => lv_istore_n hx hb hd rfl hl hn hlo (fun ls hl => kk H locs ls hP hD hS hl)
theorem Rl.istore (r : Rl E own cc R nL ini V) {x : Int32} {i : Nat} {lo' : xLo} (hd : decode cc pc = .ok (.istore i, 2)) (hn : i < nL) (hlo : (i, Value.int x) :: lo.filter (fun q => !(q.1 == i) && !(q.1 + 1 == i && q.2.category == 2)) = lo') (kk : V k n (pc + 2) lo' st ws) : V k n pc lo (.int x :: st) ws := by
  obtain ⟨p, e, s, m, args, below, meth, c, A, Q, ⟨hx, hb, hml, hown, hts⟩, hK, hA, hi, rfl⟩ := r
  exact fun H locs ls hP hD hS hl => lv_istore hx hb hd hl hn hlo (fun ls hl => kk H locs ls hP hD hS hl)
theorem Rl.astore_n (r : Rl E own cc R nL ini V) {x : Nat} {i : Fin 4} {lo' : xLo} (hd : decode cc pc = .ok (.astore_n i, 1)) (hn : i.val < nL) (hlo : (i.val, Value.ref x) :: lo.filter (fun q => !(q.1 == i.val) && !(q.1 + 1 == i.val && q.2.category == 2)) = lo') (kk : V k n (pc + 1) lo' st ws) : V k n pc lo (.ref x :: st) ws := by
  obtain ⟨p, e, s, m, args, below, meth, c, A, Q, ⟨hx, hb, hml, hown, hts⟩, hK, hA, hi, rfl⟩ := r
  exact fun H locs ls hP hD hS hl => lv_astore_n hx hb hd rfl hl hn hlo (fun ls hl => kk H locs ls hP hD hS hl)
theorem Rl.lstore_n (r : Rl E own cc R nL ini V) {x : Int64} {i : Fin 4} {lo' : xLo} (hd : decode cc pc = .ok (.lstore_n i, 1)) (hn : i.val + 1 < nL) (hlo : (i.val, Value.long x) :: lo.filter (fun q => !(q.1 == i.val) && (!(q.1 == i.val + 1) && !(q.1 + 1 == i.val && q.2.category == 2))) = lo') (kk : V k n (pc + 1) lo' st ws) : V k n pc lo (.long x :: st) ws := by
  obtain ⟨p, e, s, m, args, below, meth, c, A, Q, ⟨hx, hb, hml, hown, hts⟩, hK, hA, hi, rfl⟩ := r
  exact fun H locs ls hP hD hS hl => lv_lstore_n hx hb hd rfl hl hn hlo (fun ls hl => kk H locs ls hP hD hS hl)
theorem Rl.lstore (r : Rl E own cc R nL ini V) {x : Int64} {i : Nat} {lo' : xLo} (hd : decode cc pc = .ok (.lstore i, 2)) (hn : i + 1 < nL) (hlo : (i, Value.long x) :: lo.filter (fun q => !(q.1 == i) && (!(q.1 == i + 1) && !(q.1 + 1 == i && q.2.category == 2))) = lo') (kk : V k n (pc + 2) lo' st ws) : V k n pc lo (.long x :: st) ws := by
  obtain ⟨p, e, s, m, args, below, meth, c, A, Q, ⟨hx, hb, hml, hown, hts⟩, hK, hA, hi, rfl⟩ := r
  exact fun H locs ls hP hD hS hl => lv_lstore hx hb hd hl hn hlo (fun ls hl => kk H locs ls hP hD hS hl)
theorem Rl.iinc (r : Rl E own cc R nL ini V) {x v : Int32} {i : Nat} {z : Int} {lo' : xLo} (j : Nat) (hd : decode cc pc = .ok (.iinc i z, 3)) (hj : lo[j]? = some (i, .int x)) (hv : x + Int32.ofInt z = v) (hn : i < nL) (hlo : (i, Value.int v) :: lo.filter (fun q => !(q.1 == i) && !(q.1 + 1 == i && q.2.category == 2)) = lo') (kk : V k n (pc + 3) lo' st ws) : V k n pc lo st ws := by
  obtain ⟨p, e, s, m, args, below, meth, c, A, Q, ⟨hx, hb, hml, hown, hts⟩, hK, hA, hi, rfl⟩ := r
  exact fun H locs ls hP hD hS hl => lv_iinc hx hb hd hl hj hv hn hlo (fun ls hl => kk H locs ls hP hD hS hl)
theorem Rl.iadd (r : Rl E own cc R nL ini V) {x y : Int32} (hd : decode cc pc = .ok (.iadd, 1)) (kk : V k n (pc + 1) lo (.int (x + y) :: st) ws) : V k n pc lo (.int y :: .int x :: st) ws := by
  obtain ⟨p, e, s, m, args, below, meth, c, A, Q, ⟨hx, hb, hml, hown, hts⟩, hK, hA, hi, rfl⟩ := r
  exact fun H locs ls hP hD hS hl => lv_iadd hx hb hd (kk H locs ls hP hD hS hl)
theorem Rl.isub (r : Rl E own cc R nL ini V) {x y : Int32} (hd : decode cc pc = .ok (.isub, 1)) (kk : V k n (pc + 1) lo (.int (x - y) :: st) ws) : V k n pc lo (.int y :: .int x :: st) ws := by
  obtain ⟨p, e, s, m, args, below, meth, c, A, Q, ⟨hx, hb, hml, hown, hts⟩, hK, hA, hi, rfl⟩ := r
  exact fun H locs ls hP hD hS hl => lv_isub hx hb hd (kk H locs ls hP hD hS hl)
theorem Rl.imul (r : Rl E own cc R nL ini V) {x y : Int32} (hd : decode cc pc = .ok (.imul, 1)) (kk : V k n (pc + 1) lo (.int (x * y) :: st) ws) : V k n pc lo (.int y :: .int x :: st) ws := by
  obtain ⟨p, e, s, m, args, below, meth, c, A, Q, ⟨hx, hb, hml, hown, hts⟩, hK, hA, hi, rfl⟩ := r
  exact fun H locs ls hP hD hS hl => lv_imul hx hb hd (kk H locs ls hP hD hS hl)
theorem Rl.iand (r : Rl E own cc R nL ini V) {x y : Int32} (hd : decode cc pc = .ok (.iand, 1)) (kk : V k n (pc + 1) lo (.int (x &&& y) :: st) ws) : V k n pc lo (.int y :: .int x :: st) ws := by
  obtain ⟨p, e, s, m, args, below, meth, c, A, Q, ⟨hx, hb, hml, hown, hts⟩, hK, hA, hi, rfl⟩ := r
  exact fun H locs ls hP hD hS hl => lv_iand hx hb hd (kk H locs ls hP hD hS hl)
theorem Rl.ior (r : Rl E own cc R nL ini V) {x y : Int32} (hd : decode cc pc = .ok (.ior, 1)) (kk : V k n (pc + 1) lo (.int (x ||| y) :: st) ws) : V k n pc lo (.int y :: .int x :: st) ws := by
  obtain ⟨p, e, s, m, args, below, meth, c, A, Q, ⟨hx, hb, hml, hown, hts⟩, hK, hA, hi, rfl⟩ := r
  exact fun H locs ls hP hD hS hl => lv_ior hx hb hd (kk H locs ls hP hD hS hl)
theorem Rl.ixor (r : Rl E own cc R nL ini V) {x y : Int32} (hd : decode cc pc = .ok (.ixor, 1)) (kk : V k n (pc + 1) lo (.int (x ^^^ y) :: st) ws) : V k n pc lo (.int y :: .int x :: st) ws := by
  obtain ⟨p, e, s, m, args, below, meth, c, A, Q, ⟨hx, hb, hml, hown, hts⟩, hK, hA, hi, rfl⟩ := r
  exact fun H locs ls hP hD hS hl => lv_ixor hx hb hd (kk H locs ls hP hD hS hl)
theorem Rl.ishl (r : Rl E own cc R nL ini V) {x y : Int32} (hd : decode cc pc = .ok (.ishl, 1)) (kk : V k n (pc + 1) lo (.int (x <<< (y &&& 31)) :: st) ws) : V k n pc lo (.int y :: .int x :: st) ws := by
  obtain ⟨p, e, s, m, args, below, meth, c, A, Q, ⟨hx, hb, hml, hown, hts⟩, hK, hA, hi, rfl⟩ := r
  exact fun H locs ls hP hD hS hl => lv_ishl hx hb hd (kk H locs ls hP hD hS hl)
theorem Rl.ishr (r : Rl E own cc R nL ini V) {x y : Int32} (hd : decode cc pc = .ok (.ishr, 1)) (kk : V k n (pc + 1) lo (.int (x >>> (y &&& 31)) :: st) ws) : V k n pc lo (.int y :: .int x :: st) ws := by
  obtain ⟨p, e, s, m, args, below, meth, c, A, Q, ⟨hx, hb, hml, hown, hts⟩, hK, hA, hi, rfl⟩ := r
  exact fun H locs ls hP hD hS hl => lv_ishr hx hb hd (kk H locs ls hP hD hS hl)
theorem Rl.land (r : Rl E own cc R nL ini V) {x y : Int64} (hd : decode cc pc = .ok (.land, 1)) (kk : V k n (pc + 1) lo (.long (x &&& y) :: st) ws) : V k n pc lo (.long y :: .long x :: st) ws := by
  obtain ⟨p, e, s, m, args, below, meth, c, A, Q, ⟨hx, hb, hml, hown, hts⟩, hK, hA, hi, rfl⟩ := r
  exact fun H locs ls hP hD hS hl => lv_land hx hb hd (kk H locs ls hP hD hS hl)
theorem Rl.lor (r : Rl E own cc R nL ini V) {x y : Int64} (hd : decode cc pc = .ok (.lor, 1)) (kk : V k n (pc + 1) lo (.long (x ||| y) :: st) ws) : V k n pc lo (.long y :: .long x :: st) ws := by
  obtain ⟨p, e, s, m, args, below, meth, c, A, Q, ⟨hx, hb, hml, hown, hts⟩, hK, hA, hi, rfl⟩ := r
  exact fun H locs ls hP hD hS hl => lv_lor hx hb hd (kk H locs ls hP hD hS hl)
theorem Rl.idiv (r : Rl E own cc R nL ini V) {x y : Int32} (hd : decode cc pc = .ok (.idiv, 1)) (hne : ¬ y = 0) (kk : V k n (pc + 1) lo (.int (x / y) :: st) ws) : V k n pc lo (.int y :: .int x :: st) ws := by
  obtain ⟨p, e, s, m, args, below, meth, c, A, Q, ⟨hx, hb, hml, hown, hts⟩, hK, hA, hi, rfl⟩ := r
  exact fun H locs ls hP hD hS hl => lv_idiv hx hb hd hne (kk H locs ls hP hD hS hl)
theorem Rl.irem (r : Rl E own cc R nL ini V) {x y : Int32} (hd : decode cc pc = .ok (.irem, 1)) (hne : ¬ y = 0) (kk : V k n (pc + 1) lo (.int (x - x / y * y) :: st) ws) : V k n pc lo (.int y :: .int x :: st) ws := by
  obtain ⟨p, e, s, m, args, below, meth, c, A, Q, ⟨hx, hb, hml, hown, hts⟩, hK, hA, hi, rfl⟩ := r
  exact fun H locs ls hP hD hS hl => lv_irem hx hb hd hne (kk H locs ls hP hD hS hl)
theorem Rl.ineg (r : Rl E own cc R nL ini V) {x : Int32} (hd : decode cc pc = .ok (.ineg, 1)) (kk : V k n (pc + 1) lo (.int (-x) :: st) ws) : V k n pc lo (.int x :: st) ws := by
  obtain ⟨p, e, s, m, args, below, meth, c, A, Q, ⟨hx, hb, hml, hown, hts⟩, hK, hA, hi, rfl⟩ := r
  exact fun H locs ls hP hD hS hl => lv_ineg hx hb hd (kk H locs ls hP hD hS hl)
theorem Rl.iushr (r : Rl E own cc R nL ini V) {x y : Int32} (hd : decode cc pc = .ok (.iushr, 1)) (kk : V k n (pc + 1) lo (.int ((x.toUInt32 >>> (y.toUInt32 &&& Int32.toUInt32 31)).toInt32) :: st) ws) : V k n pc lo (.int y :: .int x :: st) ws := by
  obtain ⟨p, e, s, m, args, below, meth, c, A, Q, ⟨hx, hb, hml, hown, hts⟩, hK, hA, hi, rfl⟩ := r
  exact fun H locs ls hP hD hS hl => lv_iushr hx hb hd rfl (kk H locs ls hP hD hS hl)
theorem Rl.lushr (r : Rl E own cc R nL ini V) {x : Int64} {y : Int32} (hd : decode cc pc = .ok (.lushr, 1)) (kk : V k n (pc + 1) lo (.long ((x.toUInt64 >>> (y.toInt64.toUInt64 &&& Int64.toUInt64 63)).toInt64) :: st) ws) : V k n pc lo (.int y :: .long x :: st) ws := by
  obtain ⟨p, e, s, m, args, below, meth, c, A, Q, ⟨hx, hb, hml, hown, hts⟩, hK, hA, hi, rfl⟩ := r
  exact fun H locs ls hP hD hS hl => lv_lushr hx hb hd rfl (kk H locs ls hP hD hS hl)
theorem Rl.lshl (r : Rl E own cc R nL ini V) {x : Int64} {y : Int32} (hd : decode cc pc = .ok (.lshl, 1)) (kk : V k n (pc + 1) lo (.long (x <<< (y.toInt64 &&& 63)) :: st) ws) : V k n pc lo (.int y :: .long x :: st) ws := by
  obtain ⟨p, e, s, m, args, below, meth, c, A, Q, ⟨hx, hb, hml, hown, hts⟩, hK, hA, hi, rfl⟩ := r
  exact fun H locs ls hP hD hS hl => lv_lshl hx hb hd rfl (kk H locs ls hP hD hS hl)
theorem Rl.lshr (r : Rl E own cc R nL ini V) {x : Int64} {y : Int32} (hd : decode cc pc = .ok (.lshr, 1)) (kk : V k n (pc + 1) lo (.long (x >>> (y.toInt64 &&& 63)) :: st) ws) : V k n pc lo (.int y :: .long x :: st) ws := by
  obtain ⟨p, e, s, m, args, below, meth, c, A, Q, ⟨hx, hb, hml, hown, hts⟩, hK, hA, hi, rfl⟩ := r
  exact fun H locs ls hP hD hS hl => lv_lshr hx hb hd rfl (kk H locs ls hP hD hS hl)
theorem Rl.i2l (r : Rl E own cc R nL ini V) {x : Int32} (hd : decode cc pc = .ok (.i2l, 1)) (kk : V k n (pc + 1) lo (.long x.toInt64 :: st) ws) : V k n pc lo (.int x :: st) ws := by
  obtain ⟨p, e, s, m, args, below, meth, c, A, Q, ⟨hx, hb, hml, hown, hts⟩, hK, hA, hi, rfl⟩ := r
  exact fun H locs ls hP hD hS hl => lv_i2l hx hb hd rfl (kk H locs ls hP hD hS hl)
theorem Rl.l2i (r : Rl E own cc R nL ini V) {x : Int64} (hd : decode cc pc = .ok (.l2i, 1)) (kk : V k n (pc + 1) lo (.int x.toInt32 :: st) ws) : V k n pc lo (.long x :: st) ws := by
  obtain ⟨p, e, s, m, args, below, meth, c, A, Q, ⟨hx, hb, hml, hown, hts⟩, hK, hA, hi, rfl⟩ := r
  exact fun H locs ls hP hD hS hl => lv_l2i hx hb hd rfl (kk H locs ls hP hD hS hl)
theorem Rl.i2c (r : Rl E own cc R nL ini V) {x : Int32} (hd : decode cc pc = .ok (.i2c, 1)) (kk : V k n (pc + 1) lo (.int (x.toUInt32 % 65536).toInt32 :: st) ws) : V k n pc lo (.int x :: st) ws := by
  obtain ⟨p, e, s, m, args, below, meth, c, A, Q, ⟨hx, hb, hml, hown, hts⟩, hK, hA, hi, rfl⟩ := r
  exact fun H locs ls hP hD hS hl => lv_i2c hx hb hd rfl (kk H locs ls hP hD hS hl)
theorem Rl.lcmp (r : Rl E own cc R nL ini V) {x y : Int64} (hd : decode cc pc = .ok (.lcmp, 1)) (kk : V k n (pc + 1) lo (.int (lg_cmp x y) :: st) ws) : V k n pc lo (.long y :: .long x :: st) ws := by
  obtain ⟨p, e, s, m, args, below, meth, c, A, Q, ⟨hx, hb, hml, hown, hts⟩, hK, hA, hi, rfl⟩ := r
  exact fun H locs ls hP hD hS hl => W.lcmp hx hb hd (kk H locs ls hP hD hS hl)
theorem Rl.dup (r : Rl E own cc R nL ini V) {v : Value} (hd : decode cc pc = .ok (.dup, 1)) (hc : v.category = 1) (kk : V k n (pc + 1) lo (v :: v :: st) ws) : V k n pc lo (v :: st) ws := by
  obtain ⟨p, e, s, m, args, below, meth, c, A, Q, ⟨hx, hb, hml, hown, hts⟩, hK, hA, hi, rfl⟩ := r
  exact fun H locs ls hP hD hS hl => lv_dup hx hb hd hc (kk H locs ls hP hD hS hl)
theorem Rl.pop (r : Rl E own cc R nL ini V) {v : Value} (hd : decode cc pc = .ok (.pop, 1)) (hc : v.category = 1) (kk : V k n (pc + 1) lo st ws) : V k n pc lo (v :: st) ws := by
  obtain ⟨p, e, s, m, args, below, meth, c, A, Q, ⟨hx, hb, hml, hown, hts⟩, hK, hA, hi, rfl⟩ := r
  exact fun H locs ls hP hD hS hl => lv_pop hx hb hd hc (kk H locs ls hP hD hS hl)
theorem Rl.dup2 (r : Rl E own cc R nL ini V) {v w : Value} (hd : decode cc pc = .ok (.dup2, 1)) (hc : v.category = 1) (hc2 : w.category = 1) (kk : V k n (pc + 1) lo (v :: w :: v :: w :: st) ws) : V k n pc lo (v :: w :: st) ws := by
  obtain ⟨p, e, s, m, args, below, meth, c, A, Q, ⟨hx, hb, hml, hown, hts⟩, hK, hA, hi, rfl⟩ := r
  exact fun H locs ls hP hD hS hl => lv_dup2_11 hx hb hd hc hc2 (kk H locs ls hP hD hS hl)
theorem Rl.goto (r : Rl E own cc R nL ini V) (tgt : Nat) {off : Int} (hd : decode cc pc = .ok (.goto off, 3)) (ht : (pc : Int) + off = (tgt : Int)) (kk : V k n tgt lo st ws) : V k n pc lo st ws := by
  obtain ⟨p, e, s, m, args, below, meth, c, A, Q, ⟨hx, hb, hml, hown, hts⟩, hK, hA, hi, rfl⟩ := r
  exact fun H locs ls hP hD hS hl => lv_goto hx hb hd ht (kk H locs ls hP hD hS hl)
theorem Rl.if_eq (r : Rl E own cc R nL ini V) (tgt : Nat) {x : Int32} {off : Int} {α : Type} {a b : Option α} {o : α} (hd : decode cc pc = .ok (.ifCond .eq off, 3)) (ht : (pc : Int) + off = (tgt : Int)) (hq : (if x = 0 then a else b) = some o) (kt : x = 0 → a = some o → V k n tgt lo st ws) (kf : ¬ x = 0 → b = some o → V k n (pc + 3) lo st ws) : V k n pc lo (.int x :: st) ws := by
  obtain ⟨p, e, s, m, args, below, meth, c, A, Q, ⟨hx, hb, hml, hown, hts⟩, hK, hA, hi, rfl⟩ := r
  exact fun H locs ls hP hD hS hl => xif hq (fun c h => lv_if_eq hx hb hd ht (fun c2 => kt c h H locs ls hP hD hS hl) (fun c2 => absurd c c2)) (fun c h => lv_if_eq hx hb hd ht (fun c2 => absurd c2 c) (fun c2 => kf c h H locs ls hP hD hS hl))
theorem Rl.if_eqT (r : Rl E own cc R nL ini V) (tgt : Nat) {x : Int32} {off : Int} (hd : decode cc pc = .ok (.ifCond .eq off, 3)) (ht : (pc : Int) + off = (tgt : Int)) (hc : x = 0) (kt : V k n tgt lo st ws) : V k n pc lo (.int x :: st) ws := by
  obtain ⟨p, e, s, m, args, below, meth, c, A, Q, ⟨hx, hb, hml, hown, hts⟩, hK, hA, hi, rfl⟩ := r
  exact fun H locs ls hP hD hS hl => lv_if_eq hx hb hd ht (fun _ => kt H locs ls hP hD hS hl) (fun c2 => absurd hc c2)
theorem Rl.if_eqF (r : Rl E own cc R nL ini V) {x : Int32} {off : Int} (tgt : Nat) (hd : decode cc pc = .ok (.ifCond .eq off, 3)) (ht : (pc : Int) + off = (tgt : Int)) (hc : ¬ x = 0) (kf : V k n (pc + 3) lo st ws) : V k n pc lo (.int x :: st) ws := by
  obtain ⟨p, e, s, m, args, below, meth, c, A, Q, ⟨hx, hb, hml, hown, hts⟩, hK, hA, hi, rfl⟩ := r
  exact fun H locs ls hP hD hS hl => lv_if_eq hx hb hd ht (fun c2 => absurd c2 hc) (fun _ => kf H locs ls hP hD hS hl)
theorem Rl.icmp_eq (r : Rl E own cc R nL ini V) (tgt : Nat) {x y : Int32} {off : Int} {α : Type} {a b : Option α} {o : α} (hd : decode cc pc = .ok (.if_icmp .eq off, 3)) (ht : (pc : Int) + off = (tgt : Int)) (hq : (if x = y then a else b) = some o) (kt : x = y → a = some o → V k n tgt lo st ws) (kf : ¬ x = y → b = some o → V k n (pc + 3) lo st ws) : V k n pc lo (.int y :: .int x :: st) ws := by
  obtain ⟨p, e, s, m, args, below, meth, c, A, Q, ⟨hx, hb, hml, hown, hts⟩, hK, hA, hi, rfl⟩ := r
  exact fun H locs ls hP hD hS hl => xif hq (fun c h => lv_icmp_eq hx hb hd ht (fun c2 => kt c h H locs ls hP hD hS hl) (fun c2 => absurd c c2)) (fun c h => lv_icmp_eq hx hb hd ht (fun c2 => absurd c2 c) (fun c2 => kf c h H locs ls hP hD hS hl))
theorem Rl.icmp_eqT (r : Rl E own cc R nL ini V) (tgt : Nat) {x y : Int32} {off : Int} (hd : decode cc pc = .ok (.if_icmp .eq off, 3)) (ht : (pc : Int) + off = (tgt : Int)) (hc : x = y) (kt : V k n tgt lo st ws) : V k n pc lo (.int y :: .int x :: st) ws := by
  obtain ⟨p, e, s, m, args, below, meth, c, A, Q, ⟨hx, hb, hml, hown, hts⟩, hK, hA, hi, rfl⟩ := r
  exact fun H locs ls hP hD hS hl => lv_icmp_eq hx hb hd ht (fun _ => kt H locs ls hP hD hS hl) (fun c2 => absurd hc c2)
theorem Rl.icmp_eqF (r : Rl E own cc R nL ini V) {x y : Int32} {off : Int} (tgt : Nat) (hd : decode cc pc = .ok (.if_icmp .eq off, 3)) (ht : (pc : Int) + off = (tgt : Int)) (hc : ¬ x = y) (kf : V k n (pc + 3) lo st ws) : V k n pc lo (.int y :: .int x :: st) ws := by
  obtain ⟨p, e, s, m, args, below, meth, c, A, Q, ⟨hx, hb, hml, hown, hts⟩, hK, hA, hi, rfl⟩ := r
  exact fun H locs ls hP hD hS hl => lv_icmp_eq hx hb hd ht (fun c2 => absurd c2 hc) (fun _ => kf H locs ls hP hD hS hl)
theorem Rl.if_ne (r : Rl E own cc R nL ini V) (tgt : Nat) {x : Int32} {off : Int} {α : Type} {a b : Option α} {o : α} (hd : decode cc pc = .ok (.ifCond .ne off, 3)) (ht : (pc : Int) + off = (tgt : Int)) (hq : (if x = 0 then b else a) = some o) (kt : ¬ x = 0 → a = some o → V k n tgt lo st ws) (kf : x = 0 → b = some o → V k n (pc + 3) lo st ws) : V k n pc lo (.int x :: st) ws := by
  obtain ⟨p, e, s, m, args, below, meth, c, A, Q, ⟨hx, hb, hml, hown, hts⟩, hK, hA, hi, rfl⟩ := r
  exact fun H locs ls hP hD hS hl => xif hq (fun c h => lv_if_ne hx hb hd ht (fun c2 => absurd c c2) (fun c2 => kf c h H locs ls hP hD hS hl)) (fun c h => lv_if_ne hx hb hd ht (fun c2 => kt c h H locs ls hP hD hS hl) (fun c2 => absurd c2 c))
theorem Rl.if_neT (r : Rl E own cc R nL ini V) (tgt : Nat) {x : Int32} {off : Int} (hd : decode cc pc = .ok (.ifCond .ne off, 3)) (ht : (pc : Int) + off = (tgt : Int)) (hc : x ≠ 0) (kt : V k n tgt lo st ws) : V k n pc lo (.int x :: st) ws := by
  obtain ⟨p, e, s, m, args, below, meth, c, A, Q, ⟨hx, hb, hml, hown, hts⟩, hK, hA, hi, rfl⟩ := r
  exact fun H locs ls hP hD hS hl => lv_if_ne hx hb hd ht (fun _ => kt H locs ls hP hD hS hl) (fun c2 => absurd c2 hc)
theorem Rl.if_neF (r : Rl E own cc R nL ini V) {x : Int32} {off : Int} (tgt : Nat) (hd : decode cc pc = .ok (.ifCond .ne off, 3)) (ht : (pc : Int) + off = (tgt : Int)) (hc : ¬ (x ≠ 0)) (kf : V k n (pc + 3) lo st ws) : V k n pc lo (.int x :: st) ws := by
  obtain ⟨p, e, s, m, args, below, meth, c, A, Q, ⟨hx, hb, hml, hown, hts⟩, hK, hA, hi, rfl⟩ := r
  exact fun H locs ls hP hD hS hl => lv_if_ne hx hb hd ht (fun c2 => absurd c2 hc) (fun _ => kf H locs ls hP hD hS hl)
theorem Rl.icmp_ne (r : Rl E own cc R nL ini V) (tgt : Nat) {x y : Int32} {off : Int} {α : Type} {a b : Option α} {o : α} (hd : decode cc pc = .ok (.if_icmp .ne off, 3)) (ht : (pc : Int) + off = (tgt : Int)) (hq : (if x = y then b else a) = some o) (kt : ¬ x = y → a = some o → V k n tgt lo st ws) (kf : x = y → b = some o → V k n (pc + 3) lo st ws) : V k n pc lo (.int y :: .int x :: st) ws := by
  obtain ⟨p, e, s, m, args, below, meth, c, A, Q, ⟨hx, hb, hml, hown, hts⟩, hK, hA, hi, rfl⟩ := r
  exact fun H locs ls hP hD hS hl => xif hq (fun c h => lv_icmp_ne hx hb hd ht (fun c2 => absurd c c2) (fun c2 => kf c h H locs ls hP hD hS hl)) (fun c h => lv_icmp_ne hx hb hd ht (fun c2 => kt c h H locs ls hP hD hS hl) (fun c2 => absurd c2 c))
theorem Rl.icmp_neT (r : Rl E own cc R nL ini V) (tgt : Nat) {x y : Int32} {off : Int} (hd : decode cc pc = .ok (.if_icmp .ne off, 3)) (ht : (pc : Int) + off = (tgt : Int)) (hc : x ≠ y) (kt : V k n tgt lo st ws) : V k n pc lo (.int y :: .int x :: st) ws := by
  obtain ⟨p, e, s, m, args, below, meth, c, A, Q, ⟨hx, hb, hml, hown, hts⟩, hK, hA, hi, rfl⟩ := r
  exact fun H locs ls hP hD hS hl => lv_icmp_ne hx hb hd ht (fun _ => kt H locs ls hP hD hS hl) (fun c2 => absurd c2 hc)
theorem Rl.icmp_neF (r : Rl E own cc R nL ini V) {x y : Int32} {off : Int} (tgt : Nat) (hd : decode cc pc = .ok (.if_icmp .ne off, 3)) (ht : (pc : Int) + off = (tgt : Int)) (hc : ¬ (x ≠ y)) (kf : V k n (pc + 3) lo st ws) : V k n pc lo (.int y :: .int x :: st) ws := by
  obtain ⟨p, e, s, m, args, below, meth, c, A, Q, ⟨hx, hb, hml, hown, hts⟩, hK, hA, hi, rfl⟩ := r
  exact fun H locs ls hP hD hS hl => lv_icmp_ne hx hb hd ht (fun c2 => absurd c2 hc) (fun _ => kf H locs ls hP hD hS hl)
theorem Rl.if_lt (r : Rl E own cc R nL ini V) (tgt : Nat) {x : Int32} {off : Int} {α : Type} {a b : Option α} {o : α} (hd : decode cc pc = .ok (.ifCond .lt off, 3)) (ht : (pc : Int) + off = (tgt : Int)) (hq : (if x < 0 then a else b) = some o) (kt : x < 0 → a = some o → V k n tgt lo st ws) (kf : ¬ x < 0 → b = some o → V k n (pc + 3) lo st ws) : V k n pc lo (.int x :: st) ws := by
  obtain ⟨p, e, s, m, args, below, meth, c, A, Q, ⟨hx, hb, hml, hown, hts⟩, hK, hA, hi, rfl⟩ := r
  exact fun H locs ls hP hD hS hl => xif hq (fun c h => lv_if_lt hx hb hd ht (fun c2 => kt c h H locs ls hP hD hS hl) (fun c2 => absurd c c2)) (fun c h => lv_if_lt hx hb hd ht (fun c2 => absurd c2 c) (fun c2 => kf c h H locs ls hP hD hS hl))
theorem Rl.if_ltT (r : Rl E own cc R nL ini V) (tgt : Nat) {x : Int32} {off : Int} (hd : decode cc pc = .ok (.ifCond .lt off, 3)) (ht : (pc : Int) + off = (tgt : Int)) (hc : x < 0) (kt : V k n tgt lo st ws) : V k n pc lo (.int x :: st) ws := by
  obtain ⟨p, e, s, m, args, below, meth, c, A, Q, ⟨hx, hb, hml, hown, hts⟩, hK, hA, hi, rfl⟩ := r
  exact fun H locs ls hP hD hS hl => lv_if_lt hx hb hd ht (fun _ => kt H locs ls hP hD hS hl) (fun c2 => absurd hc c2)
theorem Rl.if_ltF (r : Rl E own cc R nL ini V) {x : Int32} {off : Int} (tgt : Nat) (hd : decode cc pc = .ok (.ifCond .lt off, 3)) (ht : (pc : Int) + off = (tgt : Int)) (hc : ¬ x < 0) (kf : V k n (pc + 3) lo st ws) : V k n pc lo (.int x :: st) ws := by
  obtain ⟨p, e, s, m, args, below, meth, c, A, Q, ⟨hx, hb, hml, hown, hts⟩, hK, hA, hi, rfl⟩ := r
  exact fun H locs ls hP hD hS hl => lv_if_lt hx hb hd ht (fun c2 => absurd c2 hc) (fun _ => kf H locs ls hP hD hS hl)
theorem Rl.icmp_lt (r : Rl E own cc R nL ini V) (tgt : Nat) {x y : Int32} {off : Int} {α : Type} {a b : Option α} {o : α} (hd : decode cc pc = .ok (.if_icmp .lt off, 3)) (ht : (pc : Int) + off = (tgt : Int)) (hq : (if x < y then a else b) = some o) (kt : x < y → a = some o → V k n tgt lo st ws) (kf : ¬ x < y → b = some o → V k n (pc + 3) lo st ws) : V k n pc lo (.int y :: .int x :: st) ws := by
  obtain ⟨p, e, s, m, args, below, meth, c, A, Q, ⟨hx, hb, hml, hown, hts⟩, hK, hA, hi, rfl⟩ := r
  exact fun H locs ls hP hD hS hl => xif hq (fun c h => lv_icmp_lt hx hb hd ht (fun c2 => kt c h H locs ls hP hD hS hl) (fun c2 => absurd c c2)) (fun c h => lv_icmp_lt hx hb hd ht (fun c2 => absurd c2 c) (fun c2 => kf c h H locs ls hP hD hS hl))
theorem Rl.icmp_ltT (r : Rl E own cc R nL ini V) (tgt : Nat) {x y : Int32} {off : Int} (hd : decode cc pc = .ok (.if_icmp .lt off, 3)) (ht : (pc : Int) + off = (tgt : Int)) (hc : x < y) (kt : V k n tgt lo st ws) : V k n pc lo (.int y :: .int x :: st) ws := by
  obtain ⟨p, e, s, m, args, below, meth, c, A, Q, ⟨hx, hb, hml, hown, hts⟩, hK, hA, hi, rfl⟩ := r
  exact fun H locs ls hP hD hS hl => lv_icmp_lt hx hb hd ht (fun _ => kt H locs ls hP hD hS hl) (fun c2 => absurd hc c2)
theorem Rl.icmp_ltF (r : Rl E own cc R nL ini V) {x y : Int32} {off : Int} (tgt : Nat) (hd : decode cc pc = .ok (.if_icmp .lt off, 3)) (ht : (pc : Int) + off = (tgt : Int)) (hc : ¬ x < y) (kf : V k n (pc + 3) lo st ws) : V k n pc lo (.int y :: .int x :: st) ws := by
  obtain ⟨p, e, s, m, args, below, meth, c, A, Q, ⟨hx, hb, hml, hown, hts⟩, hK, hA, hi, rfl⟩ := r
  exact fun H locs ls hP hD hS hl => lv_icmp_lt hx hb hd ht (fun c2 => absurd c2 hc) (fun _ => kf H locs ls hP hD hS hl)
theorem Rl.if_ge (r : Rl E own cc R nL ini V) (tgt : Nat) {x : Int32} {off : Int} {α : Type} {a b : Option α} {o : α} (hd : decode cc pc = .ok (.ifCond .ge off, 3)) (ht : (pc : Int) + off = (tgt : Int)) (hq : (if 0 ≤ x then a else b) = some o) (kt : 0 ≤ x → a = some o → V k n tgt lo st ws) (kf : ¬ 0 ≤ x → b = some o → V k n (pc + 3) lo st ws) : V k n pc lo (.int x :: st) ws := by
  obtain ⟨p, e, s, m, args, below, meth, c, A, Q, ⟨hx, hb, hml, hown, hts⟩, hK, hA, hi, rfl⟩ := r
  exact fun H locs ls hP hD hS hl => xif hq (fun c h => lv_if_ge hx hb hd ht (fun c2 => kt c h H locs ls hP hD hS hl) (fun c2 => absurd c c2)) (fun c h => lv_if_ge hx hb hd ht (fun c2 => absurd c2 c) (fun c2 => kf c h H locs ls hP hD hS hl))
theorem Rl.if_geT (r : Rl E own cc R nL ini V) (tgt : Nat) {x : Int32} {off : Int} (hd : decode cc pc = .ok (.ifCond .ge off, 3)) (ht : (pc : Int) + off = (tgt : Int)) (hc : 0 ≤ x) (kt : V k n tgt lo st ws) : V k n pc lo (.int x :: st) ws := by
  obtain ⟨p, e, s, m, args, below, meth, c, A, Q, ⟨hx, hb, hml, hown, hts⟩, hK, hA, hi, rfl⟩ := r
  exact fun H locs ls hP hD hS hl => lv_if_ge hx hb hd ht (fun _ => kt H locs ls hP hD hS hl) (fun c2 => absurd hc c2)
theorem Rl.if_geF (r : Rl E own cc R nL ini V) {x : Int32} {off : Int} (tgt : Nat) (hd : decode cc pc = .ok (.ifCond .ge off, 3)) (ht : (pc : Int) + off = (tgt : Int)) (hc : ¬ 0 ≤ x) (kf : V k n (pc + 3) lo st ws) : V k n pc lo (.int x :: st) ws := by
  obtain ⟨p, e, s, m, args, below, meth, c, A, Q, ⟨hx, hb, hml, hown, hts⟩, hK, hA, hi, rfl⟩ := r
  exact fun H locs ls hP hD hS hl => lv_if_ge hx hb hd ht (fun c2 => absurd c2 hc) (fun _ => kf H locs ls hP hD hS hl)
theorem Rl.icmp_ge (r : Rl E own cc R nL ini V) (tgt : Nat) {x y : Int32} {off : Int} {α : Type} {a b : Option α} {o : α} (hd : decode cc pc = .ok (.if_icmp .ge off, 3)) (ht : (pc : Int) + off = (tgt : Int)) (hq : (if y ≤ x then a else b) = some o) (kt : y ≤ x → a = some o → V k n tgt lo st ws) (kf : ¬ y ≤ x → b = some o → V k n (pc + 3) lo st ws) : V k n pc lo (.int y :: .int x :: st) ws := by
  obtain ⟨p, e, s, m, args, below, meth, c, A, Q, ⟨hx, hb, hml, hown, hts⟩, hK, hA, hi, rfl⟩ := r
  exact fun H locs ls hP hD hS hl => xif hq (fun c h => lv_icmp_ge hx hb hd ht (fun c2 => kt c h H locs ls hP hD hS hl) (fun c2 => absurd c c2)) (fun c h => lv_icmp_ge hx hb hd ht (fun c2 => absurd c2 c) (fun c2 => kf c h H locs ls hP hD hS hl))
theorem Rl.icmp_geT (r : Rl E own cc R nL ini V) (tgt : Nat) {x y : Int32} {off : Int} (hd : decode cc pc = .ok (.if_icmp .ge off, 3)) (ht : (pc : Int) + off = (tgt : Int)) (hc : y ≤ x) (kt : V k n tgt lo st ws) : V k n pc lo (.int y :: .int x :: st) ws := by
  obtain ⟨p, e, s, m, args, below, meth, c, A, Q, ⟨hx, hb, hml, hown, hts⟩, hK, hA, hi, rfl⟩ := r
  exact fun H locs ls hP hD hS hl => lv_icmp_ge hx hb hd ht (fun _ => kt H locs ls hP hD hS hl) (fun c2 => absurd hc c2)
theorem Rl.icmp_geF (r : Rl E own cc R nL ini V) {x y : Int32} {off : Int} (tgt : Nat) (hd : decode cc pc = .ok (.if_icmp .ge off, 3)) (ht : (pc : Int) + off = (tgt : Int)) (hc : ¬ y ≤ x) (kf : V k n (pc + 3) lo st ws) : V k n pc lo (.int y :: .int x :: st) ws := by
  obtain ⟨p, e, s, m, args, below, meth, c, A, Q, ⟨hx, hb, hml, hown, hts⟩, hK, hA, hi, rfl⟩ := r
  exact fun H locs ls hP hD hS hl => lv_icmp_ge hx hb hd ht (fun c2 => absurd c2 hc) (fun _ => kf H locs ls hP hD hS hl)
theorem Rl.if_gt (r : Rl E own cc R nL ini V) (tgt : Nat) {x : Int32} {off : Int} {α : Type} {a b : Option α} {o : α} (hd : decode cc pc = .ok (.ifCond .gt off, 3)) (ht : (pc : Int) + off = (tgt : Int)) (hq : (if 0 < x then a else b) = some o) (kt : 0 < x → a = some o → V k n tgt lo st ws) (kf : ¬ 0 < x → b = some o → V k n (pc + 3) lo st ws) : V k n pc lo (.int x :: st) ws := by
  obtain ⟨p, e, s, m, args, below, meth, c, A, Q, ⟨hx, hb, hml, hown, hts⟩, hK, hA, hi, rfl⟩ := r
  exact fun H locs ls hP hD hS hl => xif hq (fun c h => lv_if_gt hx hb hd ht (fun c2 => kt c h H locs ls hP hD hS hl) (fun c2 => absurd c c2)) (fun c h => lv_if_gt hx hb hd ht (fun c2 => absurd c2 c) (fun c2 => kf c h H locs ls hP hD hS hl))
theorem Rl.if_gtT (r : Rl E own cc R nL ini V) (tgt : Nat) {x : Int32} {off : Int} (hd : decode cc pc = .ok (.ifCond .gt off, 3)) (ht : (pc : Int) + off = (tgt : Int)) (hc : 0 < x) (kt : V k n tgt lo st ws) : V k n pc lo (.int x :: st) ws := by
  obtain ⟨p, e, s, m, args, below, meth, c, A, Q, ⟨hx, hb, hml, hown, hts⟩, hK, hA, hi, rfl⟩ := r
  exact fun H locs ls hP hD hS hl => lv_if_gt hx hb hd ht (fun _ => kt H locs ls hP hD hS hl) (fun c2 => absurd hc c2)
theorem Rl.if_gtF (r : Rl E own cc R nL ini V) {x : Int32} {off : Int} (tgt : Nat) (hd : decode cc pc = .ok (.ifCond .gt off, 3)) (ht : (pc : Int) + off = (tgt : Int)) (hc : ¬ 0 < x) (kf : V k n (pc + 3) lo st ws) : V k n pc lo (.int x :: st) ws := by
  obtain ⟨p, e, s, m, args, below, meth, c, A, Q, ⟨hx, hb, hml, hown, hts⟩, hK, hA, hi, rfl⟩ := r
  exact fun H locs ls hP hD hS hl => lv_if_gt hx hb hd ht (fun c2 => absurd c2 hc) (fun _ => kf H locs ls hP hD hS hl)
theorem Rl.icmp_gt (r : Rl E own cc R nL ini V) (tgt : Nat) {x y : Int32} {off : Int} {α : Type} {a b : Option α} {o : α} (hd : decode cc pc = .ok (.if_icmp .gt off, 3)) (ht : (pc : Int) + off = (tgt : Int)) (hq : (if y < x then a else b) = some o) (kt : y < x → a = some o → V k n tgt lo st ws) (kf : ¬ y < x → b = some o → V k n (pc + 3) lo st ws) : V k n pc lo (.int y :: .int x :: st) ws := by
  obtain ⟨p, e, s, m, args, below, meth, c, A, Q, ⟨hx, hb, hml, hown, hts⟩, hK, hA, hi, rfl⟩ := r
  exact fun H locs ls hP hD hS hl => xif hq (fun c h => lv_icmp_gt hx hb hd ht (fun c2 => kt c h H locs ls hP hD hS hl) (fun c2 => absurd c c2)) (fun c h => lv_icmp_gt hx hb hd ht (fun c2 => absurd c2 c) (fun c2 => kf c h H locs ls hP hD hS hl))
theorem Rl.icmp_gtT (r : Rl E own cc R nL ini V) (tgt : Nat) {x y : Int32} {off : Int} (hd : decode cc pc = .ok (.if_icmp .gt off, 3)) (ht : (pc : Int) + off = (tgt : Int)) (hc : y < x) (kt : V k n tgt lo st ws) : V k n pc lo (.int y :: .int x :: st) ws := by
  obtain ⟨p, e, s, m, args, below, meth, c, A, Q, ⟨hx, hb, hml, hown, hts⟩, hK, hA, hi, rfl⟩ := r
  exact fun H locs ls hP hD hS hl => lv_icmp_gt hx hb hd ht (fun _ => kt H locs ls hP hD hS hl) (fun c2 => absurd hc c2)
theorem Rl.icmp_gtF (r : Rl E own cc R nL ini V) {x y : Int32} {off : Int} (tgt : Nat) (hd : decode cc pc = .ok (.if_icmp .gt off, 3)) (ht : (pc : Int) + off = (tgt : Int)) (hc : ¬ y < x) (kf : V k n (pc + 3) lo st ws) : V k n pc lo (.int y :: .int x :: st) ws := by
  obtain ⟨p, e, s, m, args, below, meth, c, A, Q, ⟨hx, hb, hml, hown, hts⟩, hK, hA, hi, rfl⟩ := r
  exact fun H locs ls hP hD hS hl => lv_icmp_gt hx hb hd ht (fun c2 => absurd c2 hc) (fun _ => kf H locs ls hP hD hS hl)
theorem Rl.if_le (r : Rl E own cc R nL ini V) (tgt : Nat) {x : Int32} {off : Int} {α : Type} {a b : Option α} {o : α} (hd : decode cc pc = .ok (.ifCond .le off, 3)) (ht : (pc : Int) + off = (tgt : Int)) (hq : (if x ≤ 0 then a else b) = some o) (kt : x ≤ 0 → a = some o → V k n tgt lo st ws) (kf : ¬ x ≤ 0 → b = some o → V k n (pc + 3) lo st ws) : V k n pc lo (.int x :: st) ws := by
  obtain ⟨p, e, s, m, args, below, meth, c, A, Q, ⟨hx, hb, hml, hown, hts⟩, hK, hA, hi, rfl⟩ := r
  exact fun H locs ls hP hD hS hl => xif hq (fun c h => lv_if_le hx hb hd ht (fun c2 => kt c h H locs ls hP hD hS hl) (fun c2 => absurd c c2)) (fun c h => lv_if_le hx hb hd ht (fun c2 => absurd c2 c) (fun c2 => kf c h H locs ls hP hD hS hl))
theorem Rl.if_leT (r : Rl E own cc R nL ini V) (tgt : Nat) {x : Int32} {off : Int} (hd : decode cc pc = .ok (.ifCond .le off, 3)) (ht : (pc : Int) + off = (tgt : Int)) (hc : x ≤ 0) (kt : V k n tgt lo st ws) : V k n pc lo (.int x :: st) ws := by
  obtain ⟨p, e, s, m, args, below, meth, c, A, Q, ⟨hx, hb, hml, hown, hts⟩, hK, hA, hi, rfl⟩ := r
  exact fun H locs ls hP hD hS hl => lv_if_le hx hb hd ht (fun _ => kt H locs ls hP hD hS hl) (fun c2 => absurd hc c2)
theorem Rl.if_leF (r : Rl E own cc R nL ini V) {x : Int32} {off : Int} (tgt : Nat) (hd : decode cc pc = .ok (.ifCond .le off, 3)) (ht : (pc : Int) + off = (tgt : Int)) (hc : ¬ x ≤ 0) (kf : V k n (pc + 3) lo st ws) : V k n pc lo (.int x :: st) ws := by
  obtain ⟨p, e, s, m, args, below, meth, c, A, Q, ⟨hx, hb, hml, hown, hts⟩, hK, hA, hi, rfl⟩ := r
  exact fun H locs ls hP hD hS hl => lv_if_le hx hb hd ht (fun c2 => absurd c2 hc) (fun _ => kf H locs ls hP hD hS hl)
theorem Rl.icmp_le (r : Rl E own cc R nL ini V) (tgt : Nat) {x y : Int32} {off : Int} {α : Type} {a b : Option α} {o : α} (hd : decode cc pc = .ok (.if_icmp .le off, 3)) (ht : (pc : Int) + off = (tgt : Int)) (hq : (if x ≤ y then a else b) = some o) (kt : x ≤ y → a = some o → V k n tgt lo st ws) (kf : ¬ x ≤ y → b = some o → V k n (pc + 3) lo st ws) : V k n pc lo (.int y :: .int x :: st) ws := by
  obtain ⟨p, e, s, m, args, below, meth, c, A, Q, ⟨hx, hb, hml, hown, hts⟩, hK, hA, hi, rfl⟩ := r
  exact fun H locs ls hP hD hS hl => xif hq (fun c h => lv_icmp_le hx hb hd ht (fun c2 => kt c h H locs ls hP hD hS hl) (fun c2 => absurd c c2)) (fun c h => lv_icmp_le hx hb hd ht (fun c2 => absurd c2 c) (fun c2 => kf c h H locs ls hP hD hS hl))
theorem Rl.icmp_leT (r : Rl E own cc R nL ini V) (tgt : Nat) {x y : Int32} {off : Int} (hd : decode cc pc = .ok (.if_icmp .le off, 3)) (ht : (pc : Int) + off = (tgt : Int)) (hc : x ≤ y) (kt : V k n tgt lo st ws) : V k n pc lo (.int y :: .int x :: st) ws := by
  obtain ⟨p, e, s, m, args, below, meth, c, A, Q, ⟨hx, hb, hml, hown, hts⟩, hK, hA, hi, rfl⟩ := r
  exact fun H locs ls hP hD hS hl => lv_icmp_le hx hb hd ht (fun _ => kt H locs ls hP hD hS hl) (fun c2 => absurd hc c2)
theorem Rl.icmp_leF (r : Rl E own cc R nL ini V) {x y : Int32} {off : Int} (tgt : Nat) (hd : decode cc pc = .ok (.if_icmp .le off, 3)) (ht : (pc : Int) + off = (tgt : Int)) (hc : ¬ x ≤ y) (kf : V k n (pc + 3) lo st ws) : V k n pc lo (.int y :: .int x :: st) ws := by
  obtain ⟨p, e, s, m, args, below, meth, c, A, Q, ⟨hx, hb, hml, hown, hts⟩, hK, hA, hi, rfl⟩ := r
  exact fun H locs ls hP hD hS hl => lv_icmp_le hx hb hd ht (fun c2 => absurd c2 hc) (fun _ => kf H locs ls hP hD hS hl)
theorem Rl.tsOut (r : Rl E own cc R nL ini V) (tgt : Nat) {dflt lw hw : Int} {offs : Array Int} {len : Nat} {x : Int32} (hd : decode cc pc = .ok (.tableswitch dflt lw hw offs, len)) (h : x.toInt < lw ∨ hw < x.toInt) (ht : (pc : Int) + dflt = (tgt : Int)) (kk : V k n tgt lo st ws) : V k n pc lo (.int x :: st) ws := by
  obtain ⟨p, e, s, m, args, below, meth, c, A, Q, ⟨hx, hb, hml, hown, hts⟩, hK, hA, hi, rfl⟩ := r
  exact fun H locs ls hP hD hS hl => lv_tableOut hx hb hd h ht (kk H locs ls hP hD hS hl)
theorem Rl.tsIn (r : Rl E own cc R nL ini V) (tgt : Nat) {dflt lw hw : Int} {offs : Array Int} {len : Nat} {x v : Int32} {off : Int} (hd : decode cc pc = .ok (.tableswitch dflt lw hw offs, len)) (hc : x = v) (h : ¬ (x.toInt < lw ∨ hw < x.toInt)) (ho : offs[(v.toInt - lw).toNat]? = some off) (ht : (pc : Int) + off = (tgt : Int)) (kk : V k n tgt lo st ws) : V k n pc lo (.int x :: st) ws := by
  obtain ⟨p, e, s, m, args, below, meth, c, A, Q, ⟨hx, hb, hml, hown, hts⟩, hK, hA, hi, rfl⟩ := r
  exact fun H locs ls hP hD hS hl => lv_tableIn hx hb hd (fun q => h (Or.inl q)) (fun q => h (Or.inr q)) (by rw [hc]; exact ho) ht (kk H locs ls hP hD hS hl)
theorem Rl.get (r : Rl E own cc R nL ini V) {C : String} {T : u_T} {N ci : Nat} {ty : Nat → FieldType} (K : xKl C T N ci ty) {idx f : Nat} (F : xFl own idx T N f) (hT : (T f).1 = (T f).1) (q0 : Nat) {a : Nat} {fs : List Value} {v : Value} (he : ws[q0]? = some (a, .inr (ci, fs))) (hv : fs[f]? = some v) (hd : decode cc pc = .ok (.getfield idx, 3)) (kk : V k n (pc + 3) lo (v :: st) ws) : V k n pc lo (.ref a :: st) ws := by
  obtain ⟨p, e, s, m, args, below, meth, c, A, Q, ⟨hx, hb, hml, hown, hts⟩, hK, hA, hi, rfl⟩ := r
  exact fun H locs ls hP hD hS hl => va_get hx hb hts K.1 hown hK.1 hP q0 he K.2.1 f F.2 (hts _ F.1) (fun _ h => h) hv hd (kk H locs ls hP hD hS hl)
theorem Rl.put (r : Rl E own cc R nL ini V) {C : String} {T : u_T} {N ci : Nat} {ty : Nat → FieldType} (K : xKl C T N ci ty) {idx f : Nat} (F : xFl own idx T N f) (q0 : Nat) {a : Nat} {fs : List Value} {v : Value} {ws' : va_W} (he : ws[q0]? = some (a, .inr (ci, fs))) (hfin : (T f).2.2.2 = false) (hn : narrow (ty f) v = v) (hf : fits (ty f) v = true) (hl0 : f < fs.length) (hw : ws.set q0 (a, .inr (ci, fs.set f v)) = ws') (hd : decode cc pc = .ok (.putfield idx, 3)) (kk : V k n (pc + 3) lo st ws') : V k n pc lo (v :: .ref a :: st) ws := by
  obtain ⟨p, e, s, m, args, below, meth, c, A, Q, ⟨hx, hb, hml, hown, hts⟩, hK, hA, hi, rfl⟩ := r
  subst hw
  exact fun H locs ls hP hD hS hl => va_put hx hb hts K.1 ty K.2.2.1 K.2.2.2 hown hK.1 hP hD hS q0 he K.2.1 f F.2 (hts _ F.1) (fun _ h => h) hfin (K.2.2.1 f F.2) hn hf hl0 hd (fun H1 l1 hP hD hS => kk H1 l1 ls hP hD hS hl)
theorem Rl.putF (r : Rl E own cc R nL true V) {C : String} {T : u_T} {N ci : Nat} {ty : Nat → FieldType} (K : xKl C T N ci ty) {idx f : Nat} (F : xFl own idx T N f) (q0 : Nat) {a : Nat} {fs : List Value} {v : Value} {ws' : va_W} (he : ws[q0]? = some (a, .inr (ci, fs))) (hfin : (T f).2.2.2 = true) (hdecl : (T f).1 = own) (hn : narrow (ty f) v = v) (hf : fits (ty f) v = true) (hl0 : f < fs.length) (hw : ws.set q0 (a, .inr (ci, fs.set f v)) = ws') (hd : decode cc pc = .ok (.putfield idx, 3)) (kk : V k n (pc + 3) lo st ws') : V k n pc lo (v :: .ref a :: st) ws := by
  obtain ⟨p, e, s, m, args, below, meth, c, A, Q, ⟨hx, hb, hml, hown, hts⟩, hK, hA, hi, rfl⟩ := r
  subst hw
  exact fun H locs ls hP hD hS hl => va_putF hx hb hts K.1 ty K.2.2.1 K.2.2.2 hown hK.1 hP hD hS q0 he K.2.1 f F.2 (hts _ F.1) (fun _ h => h) hfin (hi rfl) hdecl (K.2.2.1 f F.2) hn hf hl0 hd (fun H1 l1 hP hD hS => kk H1 l1 ls hP hD hS hl)
theorem Rl.objInit (r : Rl E own cc R nL ini V) {a idx : Nat} (h1 : Cond.methodLink own idx objectInit ∈ gw) (h2 : Cond.instanceMethod objectInit ∈ gw) (h3 : Cond.code objectInit ⟨#[0xb1]⟩ 1 none ∈ gw) (hd : decode cc pc = .ok (.invokespecial idx, 3)) (hf : 1 ≤ R.frames) (hloc : 20 ≤ R.locals) (hst : (st.map fun v => v.category).sum ≤ 8) (kk : V k n (pc + 3) lo st ws) : V k n pc lo (.ref a :: st) ws := by
  obtain ⟨p, e, s, m, args, below, meth, c, A, Q, ⟨hx, hb, hml, hown, hts⟩, hK, hA, hi, rfl⟩ := r
  intro H locs ls hP hD hS hl
  refine W.objInit hx hb hown (hts _ h1) (hts _ h2) (hts _ h3) rfl (by rw [hml]; exact hl.1) rfl hd hf (Nat.le_trans (Nat.add_le_add_right (lv_room hst) 12) hloc) ?_
  exact kk H locs ls hP hD hS hl
theorem Rl.alen (r : Rl E own cc R nL ini V) (q0 t0 : Nat) {a : Nat} {cA : ClassId} {x : vp_A} {ty : FieldType} {v : Int32} (ha : ws[q0]? = some (a, .inl (cA, x))) (ht : (xT E)[t0]? = some (cA, ty)) (hv : Int32.ofNat x.1 = v) (hd : decode cc pc = .ok (.arraylength, 1)) (kk : V k n (pc + 1) lo (.int v :: st) ws) : V k n pc lo (.ref a :: st) ws := by
  obtain ⟨p, e, s, m, args, below, meth, c, A, Q, ⟨hx, hb, hml, hown, hts⟩, hK, hA, hi, rfl⟩ := r
  exact fun H locs ls hP hD hS hl => va_alen hx hb hK.1 hP q0 t0 ha ht hv hd (kk H locs ls hP hD hS hl)
theorem Rl.iald (r : Rl E own cc R nL ini V) (q0 : Nat) {a N : Nat} {f : Nat → Int32} {i : Int32} (ha : ws[q0]? = some (a, .inl (xI E, N, .inl f))) (hin : vp_in i N) (hd : decode cc pc = .ok (.iaload, 1)) (kk : V k n (pc + 1) lo (.int (f i.toNatClampNeg) :: st) ws) : V k n pc lo (.int i :: .ref a :: st) ws := by
  obtain ⟨p, e, s, m, args, below, meth, c, A, Q, ⟨hx, hb, hml, hown, hts⟩, hK, hA, hi, rfl⟩ := r
  exact fun H locs ls hP hD hS hl => va_iald hx hb hK.1 hP q0 0 ha rfl hin hd (kk H locs ls hP hD hS hl)
theorem Rl.zald (r : Rl E own cc R nL ini V) (q0 : Nat) {a N : Nat} {f : Nat → Int32} {i : Int32} (ha : ws[q0]? = some (a, .inl (xZ E, N, .inl f))) (hin : vp_in i N) (hd : decode cc pc = .ok (.baload, 1)) (kk : V k n (pc + 1) lo (.int (f i.toNatClampNeg) :: st) ws) : V k n pc lo (.int i :: .ref a :: st) ws := by
  obtain ⟨p, e, s, m, args, below, meth, c, A, Q, ⟨hx, hb, hml, hown, hts⟩, hK, hA, hi, rfl⟩ := r
  exact fun H locs ls hP hD hS hl => va_zald hx hb hK.1 hP q0 1 ha rfl hin hd (kk H locs ls hP hD hS hl)
theorem Rl.cald (r : Rl E own cc R nL ini V) (q0 : Nat) {a N : Nat} {f : Nat → Int32} {i : Int32} (ha : ws[q0]? = some (a, .inl (xC E, N, .inl f))) (hin : vp_in i N) (hd : decode cc pc = .ok (.caload, 1)) (kk : V k n (pc + 1) lo (.int (f i.toNatClampNeg) :: st) ws) : V k n pc lo (.int i :: .ref a :: st) ws := by
  obtain ⟨p, e, s, m, args, below, meth, c, A, Q, ⟨hx, hb, hml, hown, hts⟩, hK, hA, hi, rfl⟩ := r
  exact fun H locs ls hP hD hS hl => va_cald hx hb hK.1 hP q0 2 ha rfl hin hd (kk H locs ls hP hD hS hl)
theorem Rl.iast (r : Rl E own cc R nL ini V) (q0 : Nat) {a N : Nat} {f : Nat → Int32} {i x : Int32} {ws' : va_W} (ha : ws[q0]? = some (a, .inl (xI E, N, .inl f))) (hin : vp_in i N) (hw : ws.set q0 (a, .inl (xI E, N, .inl (upd f i.toNatClampNeg x))) = ws') (hd : decode cc pc = .ok (.iastore, 1)) (kk : V k n (pc + 1) lo st ws') : V k n pc lo (.int x :: .int i :: .ref a :: st) ws := by
  obtain ⟨p, e, s, m, args, below, meth, c, A, Q, ⟨hx, hb, hml, hown, hts⟩, hK, hA, hi, rfl⟩ := r
  subst hw
  exact fun H locs ls hP hD hS hl => va_iast hx hb hK.1 hP hD hS q0 0 ha rfl hin hd (fun H1 l1 hP hD hS => kk H1 l1 ls hP hD hS hl)
theorem Rl.zast (r : Rl E own cc R nL ini V) (q0 : Nat) {a N : Nat} {f : Nat → Int32} {i x : Int32} {ws' : va_W} (ha : ws[q0]? = some (a, .inl (xZ E, N, .inl f))) (hin : vp_in i N) (hw : ws.set q0 (a, .inl (xZ E, N, .inl (upd f i.toNatClampNeg (vp_nar .boolean x)))) = ws') (hd : decode cc pc = .ok (.bastore, 1)) (kk : V k n (pc + 1) lo st ws') : V k n pc lo (.int x :: .int i :: .ref a :: st) ws := by
  obtain ⟨p, e, s, m, args, below, meth, c, A, Q, ⟨hx, hb, hml, hown, hts⟩, hK, hA, hi, rfl⟩ := r
  subst hw
  exact fun H locs ls hP hD hS hl => va_zast hx hb hK.1 hP hD hS q0 1 ha rfl hin hd (fun H1 l1 hP hD hS => kk H1 l1 ls hP hD hS hl)
theorem Rl.cast (r : Rl E own cc R nL ini V) (q0 : Nat) {a N : Nat} {f : Nat → Int32} {i x : Int32} {ws' : va_W} (ha : ws[q0]? = some (a, .inl (xC E, N, .inl f))) (hin : vp_in i N) (hw : ws.set q0 (a, .inl (xC E, N, .inl (upd f i.toNatClampNeg (vp_nar .char x)))) = ws') (hd : decode cc pc = .ok (.castore, 1)) (kk : V k n (pc + 1) lo st ws') : V k n pc lo (.int x :: .int i :: .ref a :: st) ws := by
  obtain ⟨p, e, s, m, args, below, meth, c, A, Q, ⟨hx, hb, hml, hown, hts⟩, hK, hA, hi, rfl⟩ := r
  subst hw
  exact fun H locs ls hP hD hS hl => va_cast hx hb hK.1 hP hD hS q0 2 ha rfl hin hd (fun H1 l1 hP hD hS => kk H1 l1 ls hP hD hS hl)
theorem Rl.aald (r : Rl E own cc R nL ini V) (q0 : Nat) {a N b : Nat} {f : Nat → Option Nat} {i : Int32} (ha : ws[q0]? = some (a, .inl (xO E, N, .inr (.inr (.inr (.inr f)))))) (hin : vp_in i N) (hf : f i.toNatClampNeg = some b) (hd : decode cc pc = .ok (.aaload, 1)) (kk : V k n (pc + 1) lo (.ref b :: st) ws) : V k n pc lo (.int i :: .ref a :: st) ws := by
  obtain ⟨p, e, s, m, args, below, meth, c, A, Q, ⟨hx, hb, hml, hown, hts⟩, hK, hA, hi, rfl⟩ := r
  exact fun H locs ls hP hD hS hl => va_aldq hx hb hK.1 hP q0 3 ha rfl hin hd (by rw [hf]; exact kk H locs ls hP hD hS hl)
theorem Rl.aast (r : Rl E own cc R nL ini V) (q0 qk : Nat) {a N v : Nat} {f : Nat → Option Nat} {vs : List Value} {i : Int32} {ws' : va_W} (ha : ws[q0]? = some (a, .inl (xO E, N, .inr (.inr (.inr (.inr f)))))) (hv : ws[qk]? = some (v, .inr (6, vs))) (hin : vp_in i N) (hw : ws.set q0 (a, .inl (xO E, N, .inr (.inr (.inr (.inr (va_up f i.toNatClampNeg (some v))))))) = ws') (hd : decode cc pc = .ok (.aastore, 1)) (kk : V k n (pc + 1) lo st ws') : V k n pc lo (.ref v :: .int i :: .ref a :: st) ws := by
  obtain ⟨p, e, s, m, args, below, meth, c, A, Q, ⟨hx, hb, hml, hown, hts⟩, hK, hA, hi, rfl⟩ := r
  subst hw
  exact fun H locs ls hP hD hS hl => va_astq (r := (RX6, TX6, 6)) hx hb hK.1 hP hD hS q0 3 qk 6 ha rfl hv rfl hin hd (fun H1 l1 hP hD hS => kk H1 l1 ls hP hD hS hl)
theorem Rl.newc (r : Rl E own cc R nL ini V) {C : String} {T : u_T} {N ci : Nat} {ty : Nat → FieldType} (K : xKl C T N ci ty) {idx : Nat} (h1 : Cond.classLink own idx C ∈ gw) (h2 : Cond.instantiable C N ∈ gw) (h3 : Cond.initialized C ∈ gw) (fs : List Value) (hfs : ∀ j, j < N → defaultValue (ty j) = vp_V fs j) (hc : k + 1 ≤ R.cells) (hs : n + N ≤ R.slots) (hd : decode cc pc = .ok (.new idx, 3)) (kk : ∀ q : Nat, V (k + 1) (n + N) (pc + 3) lo (.ref q :: st) (ws ++ [(q, .inr (ci, fs))])) : V k n pc lo st ws := by
  obtain ⟨p, e, s, m, args, below, meth, c, A, Q, ⟨hx, hb, hml, hown, hts⟩, hK, hA, hi, rfl⟩ := r
  exact fun H locs ls hP hD hS hl => va_new hx hb hts K.1 ty K.2.2.1 hown (hts _ h1) (hts _ h2) (hts _ h3) hK.1 hP hD hS hA K.2.1 hfs hc hs hd (fun q H1 hP hD hS => kk q H1 locs ls hP hD hS hl)
theorem Rl.newI (r : Rl E own cc R nL ini V) (hw : Cond.arrayClass .int ∈ gw) {x : Int32} {N : Nat} (hn : ¬ x < 0) (hN : x.toNatClampNeg = N) (hby : N * 4 ≤ 536870912) (hc : k + 1 ≤ R.cells) (hs : n + N ≤ R.slots) (hd : decode cc pc = .ok (.newarray .int, 2)) (kk : ∀ q : Nat, V (k + 1) (n + N) (pc + 2) lo (.ref q :: st) (ws ++ [(q, .inl (xI E, N, .inl (fun _ => 0)))])) : V k n pc lo (.int x :: st) ws := by
  obtain ⟨p, e, s, m, args, below, meth, c, A, Q, ⟨hx, hb, hml, hown, hts⟩, hK, hA, hi, rfl⟩ := r
  intro H locs ls hP hD hS hl
  refine va_newa (atype := .int) (ty := .int) hx hb (hts _ hw) rfl hK.1 hP hD hS hA (a0 := (N, .inl (fun _ => 0))) (fun _ => rfl) hn hN hby hc hs hd (fun q cA H1 hK1 hP hD hS => ?_)
  have h1 := (hK1.2 4 (cA, .int) rfl).2
  have h2 := (hK.1.2 0 (xI E, .int) rfl).2
  have e : cA = xI E := Option.some.inj (h1.symm.trans h2)
  subst e
  exact kk q H1 locs ls hP hD hS hl
theorem Rl.newZ (r : Rl E own cc R nL ini V) (hw : Cond.arrayClass .boolean ∈ gw) {x : Int32} {N : Nat} (hn : ¬ x < 0) (hN : x.toNatClampNeg = N) (hby : N * 1 ≤ 536870912) (hc : k + 1 ≤ R.cells) (hs : n + N ≤ R.slots) (hd : decode cc pc = .ok (.newarray .boolean, 2)) (kk : ∀ q : Nat, V (k + 1) (n + N) (pc + 2) lo (.ref q :: st) (ws ++ [(q, .inl (xZ E, N, .inl (fun _ => 0)))])) : V k n pc lo (.int x :: st) ws := by
  obtain ⟨p, e, s, m, args, below, meth, c, A, Q, ⟨hx, hb, hml, hown, hts⟩, hK, hA, hi, rfl⟩ := r
  intro H locs ls hP hD hS hl
  refine va_newa (atype := .boolean) (ty := .boolean) hx hb (hts _ hw) rfl hK.1 hP hD hS hA (a0 := (N, .inl (fun _ => 0))) (fun _ => rfl) hn hN hby hc hs hd (fun q cA H1 hK1 hP hD hS => ?_)
  have h1 := (hK1.2 4 (cA, .boolean) rfl).2
  have h2 := (hK.1.2 1 (xZ E, .boolean) rfl).2
  have e : cA = xZ E := Option.some.inj (h1.symm.trans h2)
  subst e
  exact kk q H1 locs ls hP hD hS hl
theorem Rl.newC (r : Rl E own cc R nL ini V) (hw : Cond.arrayClass .char ∈ gw) {x : Int32} {N : Nat} (hn : ¬ x < 0) (hN : x.toNatClampNeg = N) (hby : N * 2 ≤ 536870912) (hc : k + 1 ≤ R.cells) (hs : n + N ≤ R.slots) (hd : decode cc pc = .ok (.newarray .char, 2)) (kk : ∀ q : Nat, V (k + 1) (n + N) (pc + 2) lo (.ref q :: st) (ws ++ [(q, .inl (xC E, N, .inl (fun _ => 0)))])) : V k n pc lo (.int x :: st) ws := by
  obtain ⟨p, e, s, m, args, below, meth, c, A, Q, ⟨hx, hb, hml, hown, hts⟩, hK, hA, hi, rfl⟩ := r
  intro H locs ls hP hD hS hl
  refine va_newa (atype := .char) (ty := .char) hx hb (hts _ hw) rfl hK.1 hP hD hS hA (a0 := (N, .inl (fun _ => 0))) (fun _ => rfl) hn hN hby hc hs hd (fun q cA H1 hK1 hP hD hS => ?_)
  have h1 := (hK1.2 4 (cA, .char) rfl).2
  have h2 := (hK.1.2 2 (xC E, .char) rfl).2
  have e : cA = xC E := Option.some.inj (h1.symm.trans h2)
  subst e
  exact kk q H1 locs ls hP hD hS hl
theorem Rl.newO (r : Rl E own cc R nL ini V) {idx : Nat} (h1 : Cond.classLink own idx RX6 ∈ gw) {x : Int32} {N : Nat} (hn : ¬ x < 0) (hN : x.toNatClampNeg = N) (hby : N * 4 ≤ 536870912) (hc : k + 1 ≤ R.cells) (hs : n + N ≤ R.slots) (hd : decode cc pc = .ok (.anewarray idx, 3)) (kk : ∀ q : Nat, V (k + 1) (n + N) (pc + 3) lo (.ref q :: st) (ws ++ [(q, .inl (xO E, N, .inr (.inr (.inr (.inr (fun _ => none))))))])) : V k n pc lo (.int x :: st) ws := by
  obtain ⟨p, e, s, m, args, below, meth, c, A, Q, ⟨hx, hb, hml, hown, hts⟩, hK, hA, hi, rfl⟩ := r
  intro H locs ls hP hD hS hl
  refine va_newq hx hb hown (hts _ h1) hK.2.2.2 hK.1 hP hD hS hA hn hN hby hc hs hd (fun q cA H1 hK1 hP hD hS => ?_)
  obtain ⟨_, _, _, _, _, h1⟩ := (hK1.2 4 (cA, .object RX6) rfl).2
  obtain ⟨_, _, _, _, _, h2⟩ := (hK.1.2 3 (xO E, .object RX6) rfl).2
  have e : cA = xO E := Option.some.inj (h1.symm.trans h2)
  subst e
  exact kk q H1 locs ls hP hD hS hl
theorem Rl.callSI (r : Rl E own cc R nL ini V) {S : Type} {idx : Nat} {y : MethodName} {ccy : ByteArray} {nLy : Nat} {rt : FieldType} {d mc ms : Nat} {As rest : List Value} {wc : va_W} {rr : S → Int32} {w1 : S → va_W} {na : Nat} (hM : xMI (S := S) E y ccy nLy rt d mc ms As wc rr w1) (g : xCS own idx y ccy nLy (some rt) na) (hn : As.length = na) (hd : decode cc pc = .ok (.invokestatic idx, 3)) (hst : st = As.reverse ++ rest) (hR : d + 1 ≤ R.frames ∧ 8 + (nLy + 11) + 30 * d ≤ R.locals) (hcs : k + mc ≤ R.cells ∧ n + ms ≤ R.slots) (hrm : (rest.map fun v => v.category).sum ≤ 8) (isC isR : List Nat) (hC : isC.map (fun i => ws[i]?) = wc.map some) (hRr : isR.all (fun i => decide (i < ws.length)) = true) (hnC : va_nd isC = true) (hnR : va_nd isR = true) (hdis : ∀ i ∈ isR, i ∉ isC) (pm : List Nat) (hnP : va_nd pm = true) {ws2 : S → va_W} (hws2 : ∀ u, pm.map (fun i => (xpick ws isR ++ w1 u)[i]?) = (ws2 u).map some) (kk : ∀ u : S, V (k + mc) (n + ms) (pc + 3) lo (.int (rr u) :: rest) (ws2 u)) : V k n pc lo st ws := by
  obtain ⟨p, e, s, m, args, below, meth, c, A, Q, ⟨hx, hb, hml, hown, hts⟩, hK, hA, hi, rfl⟩ := r
  intro H locs ls hP hD hS hl
  subst hst
  have hPc := xP_sub hP isC hC
  have hDc := hD.sub isC hnC hC
  have hFc := va_free (wc := wc) hD hS hA isC hC
  refine va_calli (va_runS (As := As) (rest := rest) ⟨hx, hb, hml, hown, hts⟩ (hM H.size) (⟨callB_of (rm := xR d mc ms) na hts (fun w h => (List.mem_cons.mp h).elim (fun e => by rw [e]; exact gw_good _ g.2.2.2.1) (gw_good w)) rfl rfl rfl (hts _ g.2.2.1) (hts _ g.1) g.2.2.2.2 hR, hts _ g.2.1⟩) ⟨fun a U g mk q => by obtain ⟨q0, q1, qP, qK, qD⟩ := q; exact ⟨q0, q1, qP, qK.calling, qD⟩, fun U hU hW => ⟨rfl, by rw [hU], by rw [hU]; exact hPc, xK.warm hW hK, hDc.weaken (fun _ _ _ _ => trivial)⟩⟩ rfl hn hl.1 rfl (lv_room hrm) hd hcs) hS (fun q _ h => hFc q h) hFc (fun r_ u t H1 locs1 ht hvm hw hB hz1 hk1 hS1 => ?_)
  subst hw
  obtain ⟨hP1, hD1⟩ := hB
  rw [ht] at hP1
  obtain ⟨hP2, hD2⟩ := va_join hP hD isC isR hC (xpick_e hRr) hnR hdis hk1 hFc hP1 hD1
  exact kk u H1 locs1 ls (xP_sub hP2 pm (hws2 u)) (hD2.sub pm hnP (hws2 u)) hS1 hl
theorem Rl.callSV (r : Rl E own cc R nL ini V) {S : Type} {idx : Nat} {y : MethodName} {ccy : ByteArray} {nLy : Nat} {d mc ms : Nat} {As rest : List Value} {wc : va_W} {w1 : S → va_W} {na : Nat} (hM : xMV (S := S) E y ccy nLy d mc ms As wc w1) (g : xCS own idx y ccy nLy none na) (hn : As.length = na) (hd : decode cc pc = .ok (.invokestatic idx, 3)) (hst : st = As.reverse ++ rest) (hR : d + 1 ≤ R.frames ∧ 8 + (nLy + 11) + 30 * d ≤ R.locals) (hcs : k + mc ≤ R.cells ∧ n + ms ≤ R.slots) (hrm : (rest.map fun v => v.category).sum ≤ 8) (isC isR : List Nat) (hC : isC.map (fun i => ws[i]?) = wc.map some) (hRr : isR.all (fun i => decide (i < ws.length)) = true) (hnC : va_nd isC = true) (hnR : va_nd isR = true) (hdis : ∀ i ∈ isR, i ∉ isC) (pm : List Nat) (hnP : va_nd pm = true) {ws2 : S → va_W} (hws2 : ∀ u, pm.map (fun i => (xpick ws isR ++ w1 u)[i]?) = (ws2 u).map some) (kk : ∀ u : S, V (k + mc) (n + ms) (pc + 3) lo rest (ws2 u)) : V k n pc lo st ws := by
  obtain ⟨p, e, s, m, args, below, meth, c, A, Q, ⟨hx, hb, hml, hown, hts⟩, hK, hA, hi, rfl⟩ := r
  intro H locs ls hP hD hS hl
  subst hst
  have hPc := xP_sub hP isC hC
  have hDc := hD.sub isC hnC hC
  have hFc := va_free (wc := wc) hD hS hA isC hC
  refine va_callv (va_runS (As := As) (rest := rest) ⟨hx, hb, hml, hown, hts⟩ (hM H.size) (⟨callB_of (rm := xR d mc ms) na hts (fun w h => (List.mem_cons.mp h).elim (fun e => by rw [e]; exact gw_good _ g.2.2.2.1) (gw_good w)) rfl rfl rfl (hts _ g.2.2.1) (hts _ g.1) g.2.2.2.2 hR, hts _ g.2.1⟩) ⟨fun a U g mk q => by obtain ⟨q0, q1, qP, qK, qD⟩ := q; exact ⟨q0, q1, qP, qK.calling, qD⟩, fun U hU hW => ⟨rfl, by rw [hU], by rw [hU]; exact hPc, xK.warm hW hK, hDc.weaken (fun _ _ _ _ => trivial)⟩⟩ rfl hn hl.1 rfl (lv_room hrm) hd hcs) hS (fun q _ h => hFc q h) hFc (fun u t H1 locs1 ht hvm hw hB hz1 hk1 hS1 => ?_)
  obtain ⟨hP1, hD1⟩ := hB
  rw [ht] at hP1
  obtain ⟨hP2, hD2⟩ := va_join hP hD isC isR hC (xpick_e hRr) hnR hdis hk1 hFc hP1 hD1
  exact kk u H1 locs1 ls (xP_sub hP2 pm (hws2 u)) (hD2.sub pm hnP (hws2 u)) hS1 hl
theorem Rl.callVI (r : Rl E own cc R nL ini V) {S : Type} {idx : Nat} {y : MethodName} {ccy : ByteArray} {nLy : Nat} {rt : FieldType} {d mc ms : Nat} {As rest : List Value} {wc : va_W} {rr : S → Int32} {w1 : S → va_W} {na : Nat} {b ci : Nat} {fs : List Value} {N : Nat} {T : u_T} (j : Nat) (hj : wc[j]? = some (b, .inr (ci, fs))) (hcl : vwCl[ci]? = some (y.cls, T, N)) (hM : xMI (S := S) E y ccy nLy rt d mc ms (.ref b :: As) wc rr w1) (g : xCV own idx y ccy nLy (some rt) na) (hn : As.length = na) (hd : decode cc pc = .ok (.invokevirtual idx, 3)) (hst : st = As.reverse ++ .ref b :: rest) (hR : d + 1 ≤ R.frames ∧ 8 + (nLy + 11) + 30 * d ≤ R.locals) (hcs : k + mc ≤ R.cells ∧ n + ms ≤ R.slots) (hrm : (rest.map fun v => v.category).sum ≤ 8) (isC isR : List Nat) (hC : isC.map (fun i => ws[i]?) = wc.map some) (hRr : isR.all (fun i => decide (i < ws.length)) = true) (hnC : va_nd isC = true) (hnR : va_nd isR = true) (hdis : ∀ i ∈ isR, i ∉ isC) (pm : List Nat) (hnP : va_nd pm = true) {ws2 : S → va_W} (hws2 : ∀ u, pm.map (fun i => (xpick ws isR ++ w1 u)[i]?) = (ws2 u).map some) (kk : ∀ u : S, V (k + mc) (n + ms) (pc + 3) lo (.int (rr u) :: rest) (ws2 u)) : V k n pc lo st ws := by
  obtain ⟨p, e, s, m, args, below, meth, c, A, Q, ⟨hx, hb, hml, hown, hts⟩, hK, hA, hi, rfl⟩ := r
  intro H locs ls hP hD hS hl
  subst hst
  have hPc := xP_sub hP isC hC
  have hDc := hD.sub isC hnC hC
  have hFc := va_free (wc := wc) hD hS hA isC hC
  refine va_calli (va_runV (As := As) (rest := rest) ⟨hx, hb, hml, hown, hts⟩ (hM H.size) (⟨callB_of (rm := xR d mc ms) na hts (fun w h => (List.mem_cons.mp h).elim (fun e => by rw [e]; exact gw_good _ g.2.2.2.2.1) (gw_good w)) rfl rfl rfl (hts _ g.2.2.2.1) (hts _ g.1) g.2.2.2.2.2 hR, hts _ g.2.1, hts _ g.2.2.1⟩) ⟨fun a U g mk q => by obtain ⟨q0, q1, qP, qK, qD⟩ := q; exact ⟨q0, q1, qP, qK.calling, qD⟩, va_recv hK.1 hPc hcl hj, fun U hU hW => ⟨rfl, by rw [hU], by rw [hU]; exact hPc, xK.warm hW hK, hDc.weaken (fun _ _ _ _ => trivial)⟩⟩ rfl hn hl.1 rfl (lv_room hrm) hd hcs) hS (fun q _ h => hFc q h) hFc (fun r_ u t H1 locs1 ht hvm hw hB hz1 hk1 hS1 => ?_)
  subst hw
  obtain ⟨hP1, hD1⟩ := hB
  rw [ht] at hP1
  obtain ⟨hP2, hD2⟩ := va_join hP hD isC isR hC (xpick_e hRr) hnR hdis hk1 hFc hP1 hD1
  exact kk u H1 locs1 ls (xP_sub hP2 pm (hws2 u)) (hD2.sub pm hnP (hws2 u)) hS1 hl
theorem Rl.callVV (r : Rl E own cc R nL ini V) {S : Type} {idx : Nat} {y : MethodName} {ccy : ByteArray} {nLy : Nat} {d mc ms : Nat} {As rest : List Value} {wc : va_W} {w1 : S → va_W} {na : Nat} {b ci : Nat} {fs : List Value} {N : Nat} {T : u_T} (j : Nat) (hj : wc[j]? = some (b, .inr (ci, fs))) (hcl : vwCl[ci]? = some (y.cls, T, N)) (hM : xMV (S := S) E y ccy nLy d mc ms (.ref b :: As) wc w1) (g : xCV own idx y ccy nLy none na) (hn : As.length = na) (hd : decode cc pc = .ok (.invokevirtual idx, 3)) (hst : st = As.reverse ++ .ref b :: rest) (hR : d + 1 ≤ R.frames ∧ 8 + (nLy + 11) + 30 * d ≤ R.locals) (hcs : k + mc ≤ R.cells ∧ n + ms ≤ R.slots) (hrm : (rest.map fun v => v.category).sum ≤ 8) (isC isR : List Nat) (hC : isC.map (fun i => ws[i]?) = wc.map some) (hRr : isR.all (fun i => decide (i < ws.length)) = true) (hnC : va_nd isC = true) (hnR : va_nd isR = true) (hdis : ∀ i ∈ isR, i ∉ isC) (pm : List Nat) (hnP : va_nd pm = true) {ws2 : S → va_W} (hws2 : ∀ u, pm.map (fun i => (xpick ws isR ++ w1 u)[i]?) = (ws2 u).map some) (kk : ∀ u : S, V (k + mc) (n + ms) (pc + 3) lo rest (ws2 u)) : V k n pc lo st ws := by
  obtain ⟨p, e, s, m, args, below, meth, c, A, Q, ⟨hx, hb, hml, hown, hts⟩, hK, hA, hi, rfl⟩ := r
  intro H locs ls hP hD hS hl
  subst hst
  have hPc := xP_sub hP isC hC
  have hDc := hD.sub isC hnC hC
  have hFc := va_free (wc := wc) hD hS hA isC hC
  refine va_callv (va_runV (As := As) (rest := rest) ⟨hx, hb, hml, hown, hts⟩ (hM H.size) (⟨callB_of (rm := xR d mc ms) na hts (fun w h => (List.mem_cons.mp h).elim (fun e => by rw [e]; exact gw_good _ g.2.2.2.2.1) (gw_good w)) rfl rfl rfl (hts _ g.2.2.2.1) (hts _ g.1) g.2.2.2.2.2 hR, hts _ g.2.1, hts _ g.2.2.1⟩) ⟨fun a U g mk q => by obtain ⟨q0, q1, qP, qK, qD⟩ := q; exact ⟨q0, q1, qP, qK.calling, qD⟩, va_recv hK.1 hPc hcl hj, fun U hU hW => ⟨rfl, by rw [hU], by rw [hU]; exact hPc, xK.warm hW hK, hDc.weaken (fun _ _ _ _ => trivial)⟩⟩ rfl hn hl.1 rfl (lv_room hrm) hd hcs) hS (fun q _ h => hFc q h) hFc (fun u t H1 locs1 ht hvm hw hB hz1 hk1 hS1 => ?_)
  obtain ⟨hP1, hD1⟩ := hB
  rw [ht] at hP1
  obtain ⟨hP2, hD2⟩ := va_join hP hD isC isR hC (xpick_e hRr) hnR hdis hk1 hFc hP1 hD1
  exact kk u H1 locs1 ls (xP_sub hP2 pm (hws2 u)) (hD2.sub pm hnP (hws2 u)) hS1 hl
theorem Rl.callIV (r : Rl E own cc R nL ini V) {S : Type} {idx : Nat} {y : MethodName} {ccy : ByteArray} {nLy : Nat} {d mc ms : Nat} {As rest : List Value} {wc : va_W} {w1 : S → va_W} {na : Nat} {b : Nat} (hM : xMV (S := S) E y ccy nLy d mc ms (.ref b :: As) wc w1) (g : xCI own idx y ccy nLy na) (hn : As.length = na) (hd : decode cc pc = .ok (.invokespecial idx, 3)) (hst : st = As.reverse ++ .ref b :: rest) (hR : d + 1 ≤ R.frames ∧ 8 + (nLy + 11) + 30 * d ≤ R.locals) (hcs : k + mc ≤ R.cells ∧ n + ms ≤ R.slots) (hrm : (rest.map fun v => v.category).sum ≤ 8) (isC isR : List Nat) (hC : isC.map (fun i => ws[i]?) = wc.map some) (hRr : isR.all (fun i => decide (i < ws.length)) = true) (hnC : va_nd isC = true) (hnR : va_nd isR = true) (hdis : ∀ i ∈ isR, i ∉ isC) (pm : List Nat) (hnP : va_nd pm = true) {ws2 : S → va_W} (hws2 : ∀ u, pm.map (fun i => (xpick ws isR ++ w1 u)[i]?) = (ws2 u).map some) (kk : ∀ u : S, V (k + mc) (n + ms) (pc + 3) lo rest (ws2 u)) : V k n pc lo st ws := by
  obtain ⟨p, e, s, m, args, below, meth, c, A, Q, ⟨hx, hb, hml, hown, hts⟩, hK, hA, hi, rfl⟩ := r
  intro H locs ls hP hD hS hl
  subst hst
  have hPc := xP_sub hP isC hC
  have hDc := hD.sub isC hnC hC
  have hFc := va_free (wc := wc) hD hS hA isC hC
  refine va_callv (va_runI (As := As) (rest := rest) ⟨hx, hb, hml, hown, hts⟩ (hM H.size) (⟨callB_of (rm := xR d mc ms) na hts (fun w h => (List.mem_cons.mp h).elim (fun e => by rw [e]; exact gw_good _ g.2.2.2.1) (gw_good w)) rfl rfl rfl (hts _ g.2.2.1) (hts _ g.1) g.2.2.2.2.2 hR, g.2.2.2.2.1, hts _ g.2.1⟩) ⟨fun a U g mk q => by obtain ⟨q0, q1, qP, qK, qD⟩ := q; exact ⟨q0, q1, qP, qK.calling, qD⟩, fun U hU hW => ⟨rfl, by rw [hU], by rw [hU]; exact hPc, xK.warm hW hK, hDc.weaken (fun _ _ _ _ => trivial)⟩⟩ rfl hn hl.1 rfl (lv_room hrm) hd hcs) hS (fun q _ h => hFc q h) hFc (fun u t H1 locs1 ht hvm hw hB hz1 hk1 hS1 => ?_)
  obtain ⟨hP1, hD1⟩ := hB
  rw [ht] at hP1
  obtain ⟨hP2, hD2⟩ := va_join hP hD isC isR hC (xpick_e hRr) hnR hdis hk1 hFc hP1 hD1
  exact kk u H1 locs1 ls (xP_sub hP2 pm (hws2 u)) (hD2.sub pm hnP (hws2 u)) hS1 hl
theorem Rl.callNV (r : Rl E own cc R nL ini V) {S : Type} {idx : Nat} {y : MethodName} {ccy : ByteArray} {nLy : Nat} {d mc ms : Nat} {As rest : List Value} {wc : va_W} {w1 : S → va_W} {na : Nat} {b : Nat} {host : String} (hlk : ∀ (_ : Program) (s : State), xK E s → va_Nw (.methodLinkNest own idx y host) s) (hM : xMV (S := S) E y ccy nLy d mc ms (.ref b :: As) wc w1) (g : xCN y ccy nLy na) (hn : As.length = na) (hd : decode cc pc = .ok (.invokespecial idx, 3)) (hst : st = As.reverse ++ .ref b :: rest) (hR : d + 1 ≤ R.frames ∧ 8 + (nLy + 11) + 30 * d ≤ R.locals) (hcs : k + mc ≤ R.cells ∧ n + ms ≤ R.slots) (hrm : (rest.map fun v => v.category).sum ≤ 8) (isC isR : List Nat) (hC : isC.map (fun i => ws[i]?) = wc.map some) (hRr : isR.all (fun i => decide (i < ws.length)) = true) (hnC : va_nd isC = true) (hnR : va_nd isR = true) (hdis : ∀ i ∈ isR, i ∉ isC) (pm : List Nat) (hnP : va_nd pm = true) {ws2 : S → va_W} (hws2 : ∀ u, pm.map (fun i => (xpick ws isR ++ w1 u)[i]?) = (ws2 u).map some) (kk : ∀ u : S, V (k + mc) (n + ms) (pc + 3) lo rest (ws2 u)) : V k n pc lo st ws := by
  obtain ⟨p, e, s, m, args, below, meth, c, A, Q, ⟨hx, hb, hml, hown, hts⟩, hK, hA, hi, rfl⟩ := r
  intro H locs ls hP hD hS hl
  subst hst
  have hPc := xP_sub hP isC hC
  have hDc := hD.sub isC hnC hC
  have hFc := va_free (wc := wc) hD hS hA isC hC
  refine va_callv (va_runIN (As := As) (rest := rest) ⟨hx, hb, hml, hown, hts⟩ (hM H.size) (⟨va_cnB (rm := xR d mc ms) na hts (fun w h => (List.mem_cons.mp h).elim (fun e => by rw [e]; exact gw_good _ g.2.2.1) (gw_good w)) rfl rfl rfl (hlk p s hK) (hts _ g.2.1) g.2.2.2.2 hR, g.2.2.2.1, hts _ g.1⟩) ⟨fun a U g mk q => by obtain ⟨q0, q1, qP, qK, qD⟩ := q; exact ⟨q0, q1, qP, qK.calling, qD⟩, fun U hU hW => ⟨rfl, by rw [hU], by rw [hU]; exact hPc, xK.warm hW hK, hDc.weaken (fun _ _ _ _ => trivial)⟩⟩ rfl hn hl.1 rfl (lv_room hrm) hd hcs) hS (fun q _ h => hFc q h) hFc (fun u t H1 locs1 ht hvm hw hB hz1 hk1 hS1 => ?_)
  obtain ⟨hP1, hD1⟩ := hB
  rw [ht] at hP1
  obtain ⟨hP2, hD2⟩ := va_join hP hD isC isR hC (xpick_e hRr) hnR hdis hk1 hFc hP1 hD1
  exact kk u H1 locs1 ls (xP_sub hP2 pm (hws2 u)) (hD2.sub pm hnP (hws2 u)) hS1 hl
end RL
