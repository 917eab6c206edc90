/-! what a walk stands in: machine, room, start, method, the world's letters, the end -/
abbrev gCx : Type := (Program × Launch × Env × Room × State × MethodId × Array Value × List Frame) × (Method × Code × va_G × Nat × (Nat → Prop) × List Nat × (State → Prop))
/-- a method: name, bytes, locals, return type, cells and slots that it may make -/
abbrev gMd : Type := MethodName × ByteArray × Nat × Option FieldType × Nat × Nat
abbrev gRm (d : Nat) (M : gMd) : Room := { frames := d, cells := M.2.2.2.2.1, slots := M.2.2.2.2.2, locals := 40 * d }
abbrev gWs (M : gMd) : List Cond := Cond.code M.1 M.2.1 M.2.2.1 M.2.2.2.1 :: gT
def gC (X : gCx) (M : gMd) : Prop := match X with
  | ((p, l, e, R, s, m, args, below), (meth, c, D, b, A, s0, Z)) => p.tables.exec = Jvm.exec ∧ c.code = M.2.1 ∧ c.maxLocals = M.2.2.1 ∧ s.vm.findClass M.1.cls = some m.cls ∧ (∀ w ∈ gT, w.before args s = true) ∧ gN s ∧ va_K D gcl [] s ∧ (∀ q : Nat, s.heap.size ≤ q → A q)
def gSt (X : gCx) (M : gMd) (L : List (Nat × Value)) (S : List Value) (h : gAH) (ws : va_W) (H : Heap) (locs : List Loc) (ls : Array Slot) (S' : List Value) : Prop := match X with
  | ((p, l, e, R, s, m, args, below), (meth, c, D, b, A, s0, Z)) => va_P D gcl ws H ∧ va_D A ws ∧ va_S A s.heap H locs ∧ gRH s (b :: ws.map Prod.fst) h ws ∧ s0 <+: ws.map Prod.fst ∧ (∃ L' : List (Nat × Value), lv_has ls M.2.2.1 L' ∧ gRP (b :: ws.map Prod.fst) L L') ∧ gRS (b :: ws.map Prod.fst) S S'
/-- the machine, at this place with these values, comes to its end -/
def GW (X : gCx) (M : gMd) (pc : Nat) (L : List (Nat × Value)) (S : List Value) (h : gAH) (kc ks : Nat) : Prop := match X with
  | ((p, l, e, R, s, m, args, below), (meth, c, D, b, A, s0, Z)) => ∀ (ws : va_W) (H : Heap) (locs : List Loc) (ls : Array Slot) (S' : List Value), gSt ((p, l, e, R, s, m, args, below), (meth, c, D, b, A, s0, Z)) M L S h ws H locs ls S' → W p l e R s m args below meth c H locs kc ks Z (F0 m pc ls S')
/-- a method's end: an answer, and the heap with it -/
def gQC (D : va_G) (b : Nat) (s0 : List Nat) (A : Nat → Prop) (Q : Option Value → gAH → Prop) : Array Value → State → Outcome → State → Prop := fun _ st oc t => (∃ (v v' : Option Value) (h' : gAH) (ws' : va_W), oc = .returned v' ∧ Q v h' ∧ gROV (b :: ws'.map Prod.fst) v v' ∧ va_P D gcl ws' t.heap ∧ va_K D gcl [] t ∧ va_D A ws' ∧ gRH t (b :: ws'.map Prod.fst) h' ws' ∧ s0 <+: ws'.map Prod.fst) ∧ va_F A st t
def gB (D : va_G) (b : Nat) (h : gAH) (ws : va_W) (sz : Nat) (U : State) : Prop := U.heap.size = sz ∧ va_P D gcl ws U.heap ∧ va_K D gcl [] U ∧ va_D (fun _ => True) ws ∧ gRH U (b :: ws.map Prod.fst) h ws ∧ gN U
/-- A METHOD'S CONTRACT: with these arguments and this heap it returns, and Q holds of answer and heap -/
def AM (D : va_G) (d : Nat) (M : gMd) (av : List Value) (h : gAH) (Q : Option Value → gAH → Prop) : Prop :=
  ∀ (l : Launch) (b : Nat) (ws : va_W) (sz : Nat) (av' : List Value), gRS (b :: ws.map Prod.fst) av av' → Met l M.1 (gWs M) (gRm d M) (va_Pc av' (gB D b h ws sz)) (gQC D b (ws.map Prod.fst) (va_A ws sz) Q) M.2.2.2.2.1 M.2.2.2.2.2 (va_A ws sz)
def gCX (D : va_G) (d : Nat) (M : gMd) (Q : Option Value → gAH → Prop) (X : gCx) : Prop := gC X M ∧ match X with
  | ((p, l, e, R, s, m, args, below), (meth, c, D', b, A, s0, Z)) => D' = D ∧ R = gRm d M ∧ meth.sig.returnType = M.2.2.2.1 ∧ meth.locks = false ∧ meth.name = M.1.name ∧ Z = MQ below (gQC D b s0 A Q) args s M.2.2.2.2.1 M.2.2.2.2.2 A
def AW (D : va_G) (d : Nat) (M : gMd) (pc : Nat) (L : List (Nat × Value)) (S : List Value) (h : gAH) (kc ks : Nat) (Q : Option Value → gAH → Prop) : Prop := ∀ X : gCx, gCX D d M Q X → GW X M pc L S h kc ks
section GRULES
variable {X : gCx} {M : gMd} {pc : Nat} {L : List (Nat × Value)} {S : List Value} {h : gAH} {kc ks : Nat}

theorem gw_iadd (C : gC X M) {y : Int32} {x : Int32} (hd : decode M.2.1 pc = .ok (.iadd, 1)) (k : GW X M (pc + 1) L (.int (x + y) :: S) h kc ks) : GW X M pc L (.int y :: .int x :: S) h kc ks := by
  obtain ⟨⟨p, l, e, R, s, m, args, below⟩, ⟨meth, c, D, b, A, s0, Z⟩⟩ := X
  obtain ⟨hx, hb, hml, hown, hts, hN, hK, hA⟩ := C
  intro ws H locs ls S' ⟨hP, hD, hS, hRH, hpre, hL, hSt⟩
  obtain ⟨S1', rfl, hSt1⟩ := gRS_int hSt
  obtain ⟨S2', rfl, hSt2⟩ := gRS_int hSt1
  exact lv_iadd hx hb hd (k ws H locs ls _ ⟨hP, hD, hS, hRH, hpre, hL, rfl, hSt2⟩)
theorem gw_isub (C : gC X M) {y : Int32} {x : Int32} (hd : decode M.2.1 pc = .ok (.isub, 1)) (k : GW X M (pc + 1) L (.int (x - y) :: S) h kc ks) : GW X M pc L (.int y :: .int x :: S) h kc ks := by
  obtain ⟨⟨p, l, e, R, s, m, args, below⟩, ⟨meth, c, D, b, A, s0, Z⟩⟩ := X
  obtain ⟨hx, hb, hml, hown, hts, hN, hK, hA⟩ := C
  intro ws H locs ls S' ⟨hP, hD, hS, hRH, hpre, hL, hSt⟩
  obtain ⟨S1', rfl, hSt1⟩ := gRS_int hSt
  obtain ⟨S2', rfl, hSt2⟩ := gRS_int hSt1
  exact lv_isub hx hb hd (k ws H locs ls _ ⟨hP, hD, hS, hRH, hpre, hL, rfl, hSt2⟩)
theorem gw_imul (C : gC X M) {y : Int32} {x : Int32} (hd : decode M.2.1 pc = .ok (.imul, 1)) (k : GW X M (pc + 1) L (.int (x * y) :: S) h kc ks) : GW X M pc L (.int y :: .int x :: S) h kc ks := by
  obtain ⟨⟨p, l, e, R, s, m, args, below⟩, ⟨meth, c, D, b, A, s0, Z⟩⟩ := X
  obtain ⟨hx, hb, hml, hown, hts, hN, hK, hA⟩ := C
  intro ws H locs ls S' ⟨hP, hD, hS, hRH, hpre, hL, hSt⟩
  obtain ⟨S1', rfl, hSt1⟩ := gRS_int hSt
  obtain ⟨S2', rfl, hSt2⟩ := gRS_int hSt1
  exact lv_imul hx hb hd (k ws H locs ls _ ⟨hP, hD, hS, hRH, hpre, hL, rfl, hSt2⟩)
theorem gw_iand (C : gC X M) {y : Int32} {x : Int32} (hd : decode M.2.1 pc = .ok (.iand, 1)) (k : GW X M (pc + 1) L (.int (x &&& y) :: S) h kc ks) : GW X M pc L (.int y :: .int x :: S) h kc ks := by
  obtain ⟨⟨p, l, e, R, s, m, args, below⟩, ⟨meth, c, D, b, A, s0, Z⟩⟩ := X
  obtain ⟨hx, hb, hml, hown, hts, hN, hK, hA⟩ := C
  intro ws H locs ls S' ⟨hP, hD, hS, hRH, hpre, hL, hSt⟩
  obtain ⟨S1', rfl, hSt1⟩ := gRS_int hSt
  obtain ⟨S2', rfl, hSt2⟩ := gRS_int hSt1
  exact lv_iand hx hb hd (k ws H locs ls _ ⟨hP, hD, hS, hRH, hpre, hL, rfl, hSt2⟩)
theorem gw_ior (C : gC X M) {y : Int32} {x : Int32} (hd : decode M.2.1 pc = .ok (.ior, 1)) (k : GW X M (pc + 1) L (.int (x ||| y) :: S) h kc ks) : GW X M pc L (.int y :: .int x :: S) h kc ks := by
  obtain ⟨⟨p, l, e, R, s, m, args, below⟩, ⟨meth, c, D, b, A, s0, Z⟩⟩ := X
  obtain ⟨hx, hb, hml, hown, hts, hN, hK, hA⟩ := C
  intro ws H locs ls S' ⟨hP, hD, hS, hRH, hpre, hL, hSt⟩
  obtain ⟨S1', rfl, hSt1⟩ := gRS_int hSt
  obtain ⟨S2', rfl, hSt2⟩ := gRS_int hSt1
  exact lv_ior hx hb hd (k ws H locs ls _ ⟨hP, hD, hS, hRH, hpre, hL, rfl, hSt2⟩)
theorem gw_ixor (C : gC X M) {y : Int32} {x : Int32} (hd : decode M.2.1 pc = .ok (.ixor, 1)) (k : GW X M (pc + 1) L (.int (x ^^^ y) :: S) h kc ks) : GW X M pc L (.int y :: .int x :: S) h kc ks := by
  obtain ⟨⟨p, l, e, R, s, m, args, below⟩, ⟨meth, c, D, b, A, s0, Z⟩⟩ := X
  obtain ⟨hx, hb, hml, hown, hts, hN, hK, hA⟩ := C
  intro ws H locs ls S' ⟨hP, hD, hS, hRH, hpre, hL, hSt⟩
  obtain ⟨S1', rfl, hSt1⟩ := gRS_int hSt
  obtain ⟨S2', rfl, hSt2⟩ := gRS_int hSt1
  exact lv_ixor hx hb hd (k ws H locs ls _ ⟨hP, hD, hS, hRH, hpre, hL, rfl, hSt2⟩)
theorem gw_ishl (C : gC X M) {y : Int32} {x : Int32} (hd : decode M.2.1 pc = .ok (.ishl, 1)) (k : GW X M (pc + 1) L (.int (x <<< (y &&& 31)) :: S) h kc ks) : GW X M pc L (.int y :: .int x :: S) h kc ks := by
  obtain ⟨⟨p, l, e, R, s, m, args, below⟩, ⟨meth, c, D, b, A, s0, Z⟩⟩ := X
  obtain ⟨hx, hb, hml, hown, hts, hN, hK, hA⟩ := C
  intro ws H locs ls S' ⟨hP, hD, hS, hRH, hpre, hL, hSt⟩
  obtain ⟨S1', rfl, hSt1⟩ := gRS_int hSt
  obtain ⟨S2', rfl, hSt2⟩ := gRS_int hSt1
  exact lv_ishl hx hb hd (k ws H locs ls _ ⟨hP, hD, hS, hRH, hpre, hL, rfl, hSt2⟩)
theorem gw_ishr (C : gC X M) {y : Int32} {x : Int32} (hd : decode M.2.1 pc = .ok (.ishr, 1)) (k : GW X M (pc + 1) L (.int (x >>> (y &&& 31)) :: S) h kc ks) : GW X M pc L (.int y :: .int x :: S) h kc ks := by
  obtain ⟨⟨p, l, e, R, s, m, args, below⟩, ⟨meth, c, D, b, A, s0, Z⟩⟩ := X
  obtain ⟨hx, hb, hml, hown, hts, hN, hK, hA⟩ := C
  intro ws H locs ls S' ⟨hP, hD, hS, hRH, hpre, hL, hSt⟩
  obtain ⟨S1', rfl, hSt1⟩ := gRS_int hSt
  obtain ⟨S2', rfl, hSt2⟩ := gRS_int hSt1
  exact lv_ishr hx hb hd (k ws H locs ls _ ⟨hP, hD, hS, hRH, hpre, hL, rfl, hSt2⟩)
theorem gw_idiv (C : gC X M) {y : Int32} {x : Int32} (hd : decode M.2.1 pc = .ok (.idiv, 1)) (hne : ¬ y = 0) (k : GW X M (pc + 1) L (.int (x / y) :: S) h kc ks) : GW X M pc L (.int y :: .int x :: S) h kc ks := by
  obtain ⟨⟨p, l, e, R, s, m, args, below⟩, ⟨meth, c, D, b, A, s0, Z⟩⟩ := X
  obtain ⟨hx, hb, hml, hown, hts, hN, hK, hA⟩ := C
  intro ws H locs ls S' ⟨hP, hD, hS, hRH, hpre, hL, hSt⟩
  obtain ⟨S1', rfl, hSt1⟩ := gRS_int hSt
  obtain ⟨S2', rfl, hSt2⟩ := gRS_int hSt1
  exact lv_idiv hx hb hd hne (k ws H locs ls _ ⟨hP, hD, hS, hRH, hpre, hL, rfl, hSt2⟩)
theorem gw_irem (C : gC X M) {y : Int32} {x : Int32} (hd : decode M.2.1 pc = .ok (.irem, 1)) (hne : ¬ y = 0) (k : GW X M (pc + 1) L (.int (x - x / y * y) :: S) h kc ks) : GW X M pc L (.int y :: .int x :: S) h kc ks := by
  obtain ⟨⟨p, l, e, R, s, m, args, below⟩, ⟨meth, c, D, b, A, s0, Z⟩⟩ := X
  obtain ⟨hx, hb, hml, hown, hts, hN, hK, hA⟩ := C
  intro ws H locs ls S' ⟨hP, hD, hS, hRH, hpre, hL, hSt⟩
  obtain ⟨S1', rfl, hSt1⟩ := gRS_int hSt
  obtain ⟨S2', rfl, hSt2⟩ := gRS_int hSt1
  exact lv_irem hx hb hd hne (k ws H locs ls _ ⟨hP, hD, hS, hRH, hpre, hL, rfl, hSt2⟩)
theorem gw_iushr (C : gC X M) {y : Int32} {x : Int32} (hd : decode M.2.1 pc = .ok (.iushr, 1)) (k : GW X M (pc + 1) L (.int ((x.toUInt32 >>> (y.toUInt32 &&& Int32.toUInt32 31)).toInt32) :: S) h kc ks) : GW X M pc L (.int y :: .int x :: S) h kc ks := by
  obtain ⟨⟨p, l, e, R, s, m, args, below⟩, ⟨meth, c, D, b, A, s0, Z⟩⟩ := X
  obtain ⟨hx, hb, hml, hown, hts, hN, hK, hA⟩ := C
  intro ws H locs ls S' ⟨hP, hD, hS, hRH, hpre, hL, hSt⟩
  obtain ⟨S1', rfl, hSt1⟩ := gRS_int hSt
  obtain ⟨S2', rfl, hSt2⟩ := gRS_int hSt1
  exact lv_iushr hx hb hd rfl (k ws H locs ls _ ⟨hP, hD, hS, hRH, hpre, hL, rfl, hSt2⟩)
theorem gw_ineg (C : gC X M) {x : Int32} (hd : decode M.2.1 pc = .ok (.ineg, 1)) (k : GW X M (pc + 1) L (.int (-x) :: S) h kc ks) : GW X M pc L (.int x :: S) h kc ks := by
  obtain ⟨⟨p, l, e, R, s, m, args, below⟩, ⟨meth, c, D, b, A, s0, Z⟩⟩ := X
  obtain ⟨hx, hb, hml, hown, hts, hN, hK, hA⟩ := C
  intro ws H locs ls S' ⟨hP, hD, hS, hRH, hpre, hL, hSt⟩
  obtain ⟨S1', rfl, hSt1⟩ := gRS_int hSt
  exact lv_ineg hx hb hd (k ws H locs ls _ ⟨hP, hD, hS, hRH, hpre, hL, rfl, hSt1⟩)
theorem gw_ladd (C : gC X M) {y : Int64} {x : Int64} (hd : decode M.2.1 pc = .ok (.ladd, 1)) (k : GW X M (pc + 1) L (.long (x + y) :: S) h kc ks) : GW X M pc L (.long y :: .long x :: S) h kc ks := by
  obtain ⟨⟨p, l, e, R, s, m, args, below⟩, ⟨meth, c, D, b, A, s0, Z⟩⟩ := X
  obtain ⟨hx, hb, hml, hown, hts, hN, hK, hA⟩ := C
  intro ws H locs ls S' ⟨hP, hD, hS, hRH, hpre, hL, hSt⟩
  obtain ⟨S1', rfl, hSt1⟩ := gRS_long hSt
  obtain ⟨S2', rfl, hSt2⟩ := gRS_long hSt1
  exact lv_ladd hx hb hd (k ws H locs ls _ ⟨hP, hD, hS, hRH, hpre, hL, rfl, hSt2⟩)
theorem gw_lsub (C : gC X M) {y : Int64} {x : Int64} (hd : decode M.2.1 pc = .ok (.lsub, 1)) (k : GW X M (pc + 1) L (.long (x - y) :: S) h kc ks) : GW X M pc L (.long y :: .long x :: S) h kc ks := by
  obtain ⟨⟨p, l, e, R, s, m, args, below⟩, ⟨meth, c, D, b, A, s0, Z⟩⟩ := X
  obtain ⟨hx, hb, hml, hown, hts, hN, hK, hA⟩ := C
  intro ws H locs ls S' ⟨hP, hD, hS, hRH, hpre, hL, hSt⟩
  obtain ⟨S1', rfl, hSt1⟩ := gRS_long hSt
  obtain ⟨S2', rfl, hSt2⟩ := gRS_long hSt1
  exact lv_lsub hx hb hd (k ws H locs ls _ ⟨hP, hD, hS, hRH, hpre, hL, rfl, hSt2⟩)
theorem gw_lmul (C : gC X M) {y : Int64} {x : Int64} (hd : decode M.2.1 pc = .ok (.lmul, 1)) (k : GW X M (pc + 1) L (.long (x * y) :: S) h kc ks) : GW X M pc L (.long y :: .long x :: S) h kc ks := by
  obtain ⟨⟨p, l, e, R, s, m, args, below⟩, ⟨meth, c, D, b, A, s0, Z⟩⟩ := X
  obtain ⟨hx, hb, hml, hown, hts, hN, hK, hA⟩ := C
  intro ws H locs ls S' ⟨hP, hD, hS, hRH, hpre, hL, hSt⟩
  obtain ⟨S1', rfl, hSt1⟩ := gRS_long hSt
  obtain ⟨S2', rfl, hSt2⟩ := gRS_long hSt1
  exact lv_lmul hx hb hd (k ws H locs ls _ ⟨hP, hD, hS, hRH, hpre, hL, rfl, hSt2⟩)
theorem gw_ldiv (C : gC X M) {y : Int64} {x : Int64} (hd : decode M.2.1 pc = .ok (.ldiv, 1)) (hne : ¬ y = 0) (k : GW X M (pc + 1) L (.long (x / y) :: S) h kc ks) : GW X M pc L (.long y :: .long x :: S) h kc ks := by
  obtain ⟨⟨p, l, e, R, s, m, args, below⟩, ⟨meth, c, D, b, A, s0, Z⟩⟩ := X
  obtain ⟨hx, hb, hml, hown, hts, hN, hK, hA⟩ := C
  intro ws H locs ls S' ⟨hP, hD, hS, hRH, hpre, hL, hSt⟩
  obtain ⟨S1', rfl, hSt1⟩ := gRS_long hSt
  obtain ⟨S2', rfl, hSt2⟩ := gRS_long hSt1
  exact lv_ldiv hx hb hd hne (k ws H locs ls _ ⟨hP, hD, hS, hRH, hpre, hL, rfl, hSt2⟩)
theorem gw_lrem (C : gC X M) {y : Int64} {x : Int64} (hd : decode M.2.1 pc = .ok (.lrem, 1)) (hne : ¬ y = 0) (k : GW X M (pc + 1) L (.long (x - x / y * y) :: S) h kc ks) : GW X M pc L (.long y :: .long x :: S) h kc ks := by
  obtain ⟨⟨p, l, e, R, s, m, args, below⟩, ⟨meth, c, D, b, A, s0, Z⟩⟩ := X
  obtain ⟨hx, hb, hml, hown, hts, hN, hK, hA⟩ := C
  intro ws H locs ls S' ⟨hP, hD, hS, hRH, hpre, hL, hSt⟩
  obtain ⟨S1', rfl, hSt1⟩ := gRS_long hSt
  obtain ⟨S2', rfl, hSt2⟩ := gRS_long hSt1
  exact lv_lrem hx hb hd hne (k ws H locs ls _ ⟨hP, hD, hS, hRH, hpre, hL, rfl, hSt2⟩)
theorem gw_lcmp (C : gC X M) {y : Int64} {x : Int64} (hd : decode M.2.1 pc = .ok (.lcmp, 1)) (k : GW X M (pc + 1) L (.int (lg_cmp x y) :: S) h kc ks) : GW X M pc L (.long y :: .long x :: S) h kc ks := by
  obtain ⟨⟨p, l, e, R, s, m, args, below⟩, ⟨meth, c, D, b, A, s0, Z⟩⟩ := X
  obtain ⟨hx, hb, hml, hown, hts, hN, hK, hA⟩ := C
  intro ws H locs ls S' ⟨hP, hD, hS, hRH, hpre, hL, hSt⟩
  obtain ⟨S1', rfl, hSt1⟩ := gRS_long hSt
  obtain ⟨S2', rfl, hSt2⟩ := gRS_long hSt1
  exact W.lcmp hx hb hd (k ws H locs ls _ ⟨hP, hD, hS, hRH, hpre, hL, rfl, hSt2⟩)
theorem gw_i2l (C : gC X M) {x : Int32} (hd : decode M.2.1 pc = .ok (.i2l, 1)) (k : GW X M (pc + 1) L (.long x.toInt64 :: S) h kc ks) : GW X M pc L (.int x :: S) h kc ks := by
  obtain ⟨⟨p, l, e, R, s, m, args, below⟩, ⟨meth, c, D, b, A, s0, Z⟩⟩ := X
  obtain ⟨hx, hb, hml, hown, hts, hN, hK, hA⟩ := C
  intro ws H locs ls S' ⟨hP, hD, hS, hRH, hpre, hL, hSt⟩
  obtain ⟨S1', rfl, hSt1⟩ := gRS_int hSt
  exact lv_i2l hx hb hd rfl (k ws H locs ls _ ⟨hP, hD, hS, hRH, hpre, hL, rfl, hSt1⟩)
theorem gw_l2i (C : gC X M) {x : Int64} (hd : decode M.2.1 pc = .ok (.l2i, 1)) (k : GW X M (pc + 1) L (.int x.toInt32 :: S) h kc ks) : GW X M pc L (.long x :: S) h kc ks := by
  obtain ⟨⟨p, l, e, R, s, m, args, below⟩, ⟨meth, c, D, b, A, s0, Z⟩⟩ := X
  obtain ⟨hx, hb, hml, hown, hts, hN, hK, hA⟩ := C
  intro ws H locs ls S' ⟨hP, hD, hS, hRH, hpre, hL, hSt⟩
  obtain ⟨S1', rfl, hSt1⟩ := gRS_long hSt
  exact lv_l2i hx hb hd rfl (k ws H locs ls _ ⟨hP, hD, hS, hRH, hpre, hL, rfl, hSt1⟩)
theorem gw_i2b (C : gC X M) {x : Int32} (hd : decode M.2.1 pc = .ok (.i2b, 1)) (k : GW X M (pc + 1) L (.int x.toInt8.toInt32 :: S) h kc ks) : GW X M pc L (.int x :: S) h kc ks := by
  obtain ⟨⟨p, l, e, R, s, m, args, below⟩, ⟨meth, c, D, b, A, s0, Z⟩⟩ := X
  obtain ⟨hx, hb, hml, hown, hts, hN, hK, hA⟩ := C
  intro ws H locs ls S' ⟨hP, hD, hS, hRH, hpre, hL, hSt⟩
  obtain ⟨S1', rfl, hSt1⟩ := gRS_int hSt
  exact lv_i2b hx hb hd rfl (k ws H locs ls _ ⟨hP, hD, hS, hRH, hpre, hL, rfl, hSt1⟩)
theorem gw_iconst (C : gC X M) {n : Int} {v : Int32} (hd : decode M.2.1 pc = .ok (.iconst n, 1)) (hv : Int32.ofInt n = v) (k : GW X M (pc + 1) L (.int v :: S) h kc ks) : GW X M pc L (S) h kc ks := by
  obtain ⟨⟨p, l, e, R, s, m, args, below⟩, ⟨meth, c, D, b, A, s0, Z⟩⟩ := X
  obtain ⟨hx, hb, hml, hown, hts, hN, hK, hA⟩ := C
  intro ws H locs ls S' ⟨hP, hD, hS, hRH, hpre, hL, hSt⟩
  exact lv_iconst hx hb hd hv (k ws H locs ls _ ⟨hP, hD, hS, hRH, hpre, hL, rfl, hSt⟩)
theorem gw_bipush (C : gC X M) {n : Int} {v : Int32} (hd : decode M.2.1 pc = .ok (.bipush n, 2)) (hv : (Int8.ofInt n).toInt32 = v) (k : GW X M (pc + 2) L (.int v :: S) h kc ks) : GW X M pc L (S) h kc ks := by
  obtain ⟨⟨p, l, e, R, s, m, args, below⟩, ⟨meth, c, D, b, A, s0, Z⟩⟩ := X
  obtain ⟨hx, hb, hml, hown, hts, hN, hK, hA⟩ := C
  intro ws H locs ls S' ⟨hP, hD, hS, hRH, hpre, hL, hSt⟩
  exact lv_bipush hx hb hd hv (k ws H locs ls _ ⟨hP, hD, hS, hRH, hpre, hL, rfl, hSt⟩)
theorem gw_sipush (C : gC X M) {n : Int} {v : Int32} (hd : decode M.2.1 pc = .ok (.sipush n, 3)) (hv : (Int16.ofInt n).toInt32 = v) (k : GW X M (pc + 3) L (.int v :: S) h kc ks) : GW X M pc L (S) h kc ks := by
  obtain ⟨⟨p, l, e, R, s, m, args, below⟩, ⟨meth, c, D, b, A, s0, Z⟩⟩ := X
  obtain ⟨hx, hb, hml, hown, hts, hN, hK, hA⟩ := C
  intro ws H locs ls S' ⟨hP, hD, hS, hRH, hpre, hL, hSt⟩
  exact lv_sipush hx hb hd hv (k ws H locs ls _ ⟨hP, hD, hS, hRH, hpre, hL, rfl, hSt⟩)
theorem gw_lconst (C : gC X M) {n : Fin 2} {v : Int64} (hd : decode M.2.1 pc = .ok (.lconst n, 1)) (hv : Int64.ofNat (n : Nat) = v) (k : GW X M (pc + 1) L (.long v :: S) h kc ks) : GW X M pc L (S) h kc ks := by
  obtain ⟨⟨p, l, e, R, s, m, args, below⟩, ⟨meth, c, D, b, A, s0, Z⟩⟩ := X
  obtain ⟨hx, hb, hml, hown, hts, hN, hK, hA⟩ := C
  intro ws H locs ls S' ⟨hP, hD, hS, hRH, hpre, hL, hSt⟩
  exact lv_lconst hx hb hd hv (k ws H locs ls _ ⟨hP, hD, hS, hRH, hpre, hL, rfl, hSt⟩)
theorem gw_null (C : gC X M) (hd : decode M.2.1 pc = .ok (.aconst_null, 1)) (k : GW X M (pc + 1) L (.null :: S) h kc ks) : GW X M pc L (S) h kc ks := by
  obtain ⟨⟨p, l, e, R, s, m, args, below⟩, ⟨meth, c, D, b, A, s0, Z⟩⟩ := X
  obtain ⟨hx, hb, hml, hown, hts, hN, hK, hA⟩ := C
  intro ws H locs ls S' ⟨hP, hD, hS, hRH, hpre, hL, hSt⟩
  exact lv_null hx hb hd (k ws H locs ls _ ⟨hP, hD, hS, hRH, hpre, hL, rfl, hSt⟩)
theorem gw_ldc (C : gC X M) {i : Nat} {v : Int32} (hc : Cond.constant M.1.cls i v ∈ gT) (hd : decode M.2.1 pc = .ok (.ldc i, 2)) (k : GW X M (pc + 2) L (.int v :: S) h kc ks) : GW X M pc L S h kc ks := by
  obtain ⟨⟨p, l, e, R, s, m, args, below⟩, ⟨meth, c, D, b, A, s0, Z⟩⟩ := X
  obtain ⟨hx, hb, hml, hown, hts, hN, hK, hA⟩ := C
  intro ws H locs ls S' ⟨hP, hD, hS, hRH, hpre, hL, hSt⟩
  exact lv_ldc hx hb hown (hts _ hc) hd (k ws H locs ls _ ⟨hP, hD, hS, hRH, hpre, hL, rfl, hSt⟩)
theorem gw_ldcw (C : gC X M) {i : Nat} {v : Int32} (hc : Cond.constant M.1.cls i v ∈ gT) (hd : decode M.2.1 pc = .ok (.ldc_w i, 3)) (k : GW X M (pc + 3) L (.int v :: S) h kc ks) : GW X M pc L S h kc ks := by
  obtain ⟨⟨p, l, e, R, s, m, args, below⟩, ⟨meth, c, D, b, A, s0, Z⟩⟩ := X
  obtain ⟨hx, hb, hml, hown, hts, hN, hK, hA⟩ := C
  intro ws H locs ls S' ⟨hP, hD, hS, hRH, hpre, hL, hSt⟩
  exact lv_ldcw hx hb hown (hts _ hc) hd (k ws H locs ls _ ⟨hP, hD, hS, hRH, hpre, hL, rfl, hSt⟩)
theorem gw_ldc2 (C : gC X M) {i : Nat} {v : Int64} (hc : Cond.constantLong M.1.cls i v ∈ gT) (hd : decode M.2.1 pc = .ok (.ldc2_w i, 3)) (k : GW X M (pc + 3) L (.long v :: S) h kc ks) : GW X M pc L S h kc ks := by
  obtain ⟨⟨p, l, e, R, s, m, args, below⟩, ⟨meth, c, D, b, A, s0, Z⟩⟩ := X
  obtain ⟨hx, hb, hml, hown, hts, hN, hK, hA⟩ := C
  intro ws H locs ls S' ⟨hP, hD, hS, hRH, hpre, hL, hSt⟩
  exact lv_ldc2 hx hb hown (hts _ hc) hd (k ws H locs ls _ ⟨hP, hD, hS, hRH, hpre, hL, rfl, hSt⟩)
theorem gw_iload_n (C : gC X M) {n : Fin 4} {i : Nat} {x : Int32} (j : Nat) (hj : L[j]? = some (i, .int x)) (hd : decode M.2.1 pc = .ok (.iload_n n, 1)) (hi : (n : Nat) = i) (k : GW X M (pc + 1) L (.int x :: S) h kc ks) : GW X M pc L S h kc ks := by
  obtain ⟨⟨p, l, e, R, s, m, args, below⟩, ⟨meth, c, D, b, A, s0, Z⟩⟩ := X
  obtain ⟨hx, hb, hml, hown, hts, hN, hK, hA⟩ := C
  intro ws H locs ls S' ⟨hP, hD, hS, hRH, hpre, hL, hSt⟩
  obtain ⟨L', hl, hLP⟩ := hL
  obtain ⟨v', h1, h2⟩ := gRP_get hLP hj
  cases h2
  exact lv_iload_n hx hb hd hi (lv_at hl j h1) (k ws H locs ls _ ⟨hP, hD, hS, hRH, hpre, ⟨L', hl, hLP⟩, rfl, hSt⟩)
theorem gw_iload (C : gC X M) {i : Nat} {x : Int32} (j : Nat) (hj : L[j]? = some (i, .int x)) (hd : decode M.2.1 pc = .ok (.iload i, 2)) (k : GW X M (pc + 2) L (.int x :: S) h kc ks) : GW X M pc L S h kc ks := by
  obtain ⟨⟨p, l, e, R, s, m, args, below⟩, ⟨meth, c, D, b, A, s0, Z⟩⟩ := X
  obtain ⟨hx, hb, hml, hown, hts, hN, hK, hA⟩ := C
  intro ws H locs ls S' ⟨hP, hD, hS, hRH, hpre, hL, hSt⟩
  obtain ⟨L', hl, hLP⟩ := hL
  obtain ⟨v', h1, h2⟩ := gRP_get hLP hj
  cases h2
  exact lv_iload hx hb hd (lv_at hl j h1) (k ws H locs ls _ ⟨hP, hD, hS, hRH, hpre, ⟨L', hl, hLP⟩, rfl, hSt⟩)
theorem gw_lload_n (C : gC X M) {n : Fin 4} {i : Nat} {x : Int64} (j : Nat) (hj : L[j]? = some (i, .long x)) (hd : decode M.2.1 pc = .ok (.lload_n n, 1)) (hi : (n : Nat) = i) (k : GW X M (pc + 1) L (.long x :: S) h kc ks) : GW X M pc L S h kc ks := by
  obtain ⟨⟨p, l, e, R, s, m, args, below⟩, ⟨meth, c, D, b, A, s0, Z⟩⟩ := X
  obtain ⟨hx, hb, hml, hown, hts, hN, hK, hA⟩ := C
  intro ws H locs ls S' ⟨hP, hD, hS, hRH, hpre, hL, hSt⟩
  obtain ⟨L', hl, hLP⟩ := hL
  obtain ⟨v', h1, h2⟩ := gRP_get hLP hj
  cases h2
  exact lv_lload_n hx hb hd hi (lv_at hl j h1) (k ws H locs ls _ ⟨hP, hD, hS, hRH, hpre, ⟨L', hl, hLP⟩, rfl, hSt⟩)
theorem gw_lload (C : gC X M) {i : Nat} {x : Int64} (j : Nat) (hj : L[j]? = some (i, .long x)) (hd : decode M.2.1 pc = .ok (.lload i, 2)) (k : GW X M (pc + 2) L (.long x :: S) h kc ks) : GW X M pc L S h kc ks := by
  obtain ⟨⟨p, l, e, R, s, m, args, below⟩, ⟨meth, c, D, b, A, s0, Z⟩⟩ := X
  obtain ⟨hx, hb, hml, hown, hts, hN, hK, hA⟩ := C
  intro ws H locs ls S' ⟨hP, hD, hS, hRH, hpre, hL, hSt⟩
  obtain ⟨L', hl, hLP⟩ := hL
  obtain ⟨v', h1, h2⟩ := gRP_get hLP hj
  cases h2
  exact lv_lload hx hb hd (lv_at hl j h1) (k ws H locs ls _ ⟨hP, hD, hS, hRH, hpre, ⟨L', hl, hLP⟩, rfl, hSt⟩)
theorem gw_aload_n (C : gC X M) {n : Fin 4} {i : Nat} {x : Nat} (j : Nat) (hj : L[j]? = some (i, .ref x)) (hd : decode M.2.1 pc = .ok (.aload_n n, 1)) (hi : (n : Nat) = i) (k : GW X M (pc + 1) L (.ref x :: S) h kc ks) : GW X M pc L S h kc ks := by
  obtain ⟨⟨p, l, e, R, s, m, args, below⟩, ⟨meth, c, D, b, A, s0, Z⟩⟩ := X
  obtain ⟨hx, hb, hml, hown, hts, hN, hK, hA⟩ := C
  intro ws H locs ls S' ⟨hP, hD, hS, hRH, hpre, hL, hSt⟩
  obtain ⟨L', hl, hLP⟩ := hL
  obtain ⟨v', h1, ⟨a, h2, h3⟩⟩ := gRP_get hLP hj
  subst h3
  exact lv_aload_n hx hb hd hi (lv_at hl j h1) (k ws H locs ls _ ⟨hP, hD, hS, hRH, hpre, ⟨L', hl, hLP⟩, ⟨a, h2, rfl⟩, hSt⟩)
theorem gw_aload_nN (C : gC X M) {n : Fin 4} {i : Nat} (j : Nat) (hj : L[j]? = some (i, .null)) (hd : decode M.2.1 pc = .ok (.aload_n n, 1)) (hi : (n : Nat) = i) (k : GW X M (pc + 1) L (.null :: S) h kc ks) : GW X M pc L S h kc ks := by
  obtain ⟨⟨p, l, e, R, s, m, args, below⟩, ⟨meth, c, D, b, A, s0, Z⟩⟩ := X
  obtain ⟨hx, hb, hml, hown, hts, hN, hK, hA⟩ := C
  intro ws H locs ls S' ⟨hP, hD, hS, hRH, hpre, hL, hSt⟩
  obtain ⟨L', hl, hLP⟩ := hL
  obtain ⟨v', h1, h2⟩ := gRP_get hLP hj
  cases h2
  exact lv_aload_nN hx hb hd hi (lv_at hl j h1) (k ws H locs ls _ ⟨hP, hD, hS, hRH, hpre, ⟨L', hl, hLP⟩, rfl, hSt⟩)
theorem gw_aload (C : gC X M) {i : Nat} {x : Nat} (j : Nat) (hj : L[j]? = some (i, .ref x)) (hd : decode M.2.1 pc = .ok (.aload i, 2)) (k : GW X M (pc + 2) L (.ref x :: S) h kc ks) : GW X M pc L S h kc ks := by
  obtain ⟨⟨p, l, e, R, s, m, args, below⟩, ⟨meth, c, D, b, A, s0, Z⟩⟩ := X
  obtain ⟨hx, hb, hml, hown, hts, hN, hK, hA⟩ := C
  intro ws H locs ls S' ⟨hP, hD, hS, hRH, hpre, hL, hSt⟩
  obtain ⟨L', hl, hLP⟩ := hL
  obtain ⟨v', h1, ⟨a, h2, h3⟩⟩ := gRP_get hLP hj
  subst h3
  exact lv_aload hx hb hd (lv_at hl j h1) (k ws H locs ls _ ⟨hP, hD, hS, hRH, hpre, ⟨L', hl, hLP⟩, ⟨a, h2, rfl⟩, hSt⟩)
theorem gw_aloadN (C : gC X M) {i : Nat} (j : Nat) (hj : L[j]? = some (i, .null)) (hd : decode M.2.1 pc = .ok (.aload i, 2)) (k : GW X M (pc + 2) L (.null :: S) h kc ks) : GW X M pc L S h kc ks := by
  obtain ⟨⟨p, l, e, R, s, m, args, below⟩, ⟨meth, c, D, b, A, s0, Z⟩⟩ := X
  obtain ⟨hx, hb, hml, hown, hts, hN, hK, hA⟩ := C
  intro ws H locs ls S' ⟨hP, hD, hS, hRH, hpre, hL, hSt⟩
  obtain ⟨L', hl, hLP⟩ := hL
  obtain ⟨v', h1, h2⟩ := gRP_get hLP hj
  cases h2
  exact lv_aloadN hx hb hd (lv_at hl j h1) (k ws H locs ls _ ⟨hP, hD, hS, hRH, hpre, ⟨L', hl, hLP⟩, rfl, hSt⟩)
theorem gf1 {sg : List Nat} {i : Nat} {L L' : List (Nat × Value)} (hl : gRP sg L L') : gRP sg (L.filter (fun q => !(q.1 == i) && !(q.1 + 1 == i && q.2.category == 2))) (L'.filter (fun q => !(q.1 == i) && !(q.1 + 1 == i && q.2.category == 2))) := gRP_filter (fun q q' e1 e2 => by simp only [e1, e2]) hl
theorem gf2 {sg : List Nat} {i : Nat} {L L' : List (Nat × Value)} (hl : gRP sg L L') : gRP sg (L.filter (fun q => !(q.1 == i) && (!(q.1 == i + 1) && !(q.1 + 1 == i && q.2.category == 2)))) (L'.filter (fun q => !(q.1 == i) && (!(q.1 == i + 1) && !(q.1 + 1 == i && q.2.category == 2)))) := gRP_filter (fun q q' e1 e2 => by simp only [e1, e2]) hl
theorem gw_istore_n (C : gC X M) {n : Fin 4} {i : Nat} {x : Int32} {L2 : List (Nat × Value)} (hd : decode M.2.1 pc = .ok (.istore_n n, 1)) (hi : (n : Nat) = i) (hn : i < M.2.2.1) (hL2 : (i, Value.int x) :: L.filter (fun q => !(q.1 == i) && !(q.1 + 1 == i && q.2.category == 2)) = L2) (k : GW X M (pc + 1) L2 S h kc ks) : GW X M pc L (.int x :: S) h kc ks := by
  obtain ⟨⟨p, l, e, R, s, m, args, below⟩, ⟨meth, c, D, b, A, s0, Z⟩⟩ := X
  obtain ⟨hx, hb, hml, hown, hts, hN, hK, hA⟩ := C
  intro ws H locs ls S' ⟨hP, hD, hS, hRH, hpre, hL, hSt⟩
  obtain ⟨S1', rfl, hSt1⟩ := gRS_int hSt
  obtain ⟨L', hl, hLP⟩ := hL
  subst hL2
  exact lv_istore_n hx hb hd hi hl hn rfl (fun ls hl => k ws H locs ls _ ⟨hP, hD, hS, hRH, hpre, ⟨_, hl, ⟨⟨rfl, rfl⟩, gf1 hLP⟩⟩, hSt1⟩)
theorem gw_istore (C : gC X M) {i : Nat} {x : Int32} {L2 : List (Nat × Value)} (hd : decode M.2.1 pc = .ok (.istore i, 2)) (hn : i < M.2.2.1) (hL2 : (i, Value.int x) :: L.filter (fun q => !(q.1 == i) && !(q.1 + 1 == i && q.2.category == 2)) = L2) (k : GW X M (pc + 2) L2 S h kc ks) : GW X M pc L (.int x :: S) h kc ks := by
  obtain ⟨⟨p, l, e, R, s, m, args, below⟩, ⟨meth, c, D, b, A, s0, Z⟩⟩ := X
  obtain ⟨hx, hb, hml, hown, hts, hN, hK, hA⟩ := C
  intro ws H locs ls S' ⟨hP, hD, hS, hRH, hpre, hL, hSt⟩
  obtain ⟨S1', rfl, hSt1⟩ := gRS_int hSt
  obtain ⟨L', hl, hLP⟩ := hL
  subst hL2
  exact lv_istore hx hb hd hl hn rfl (fun ls hl => k ws H locs ls _ ⟨hP, hD, hS, hRH, hpre, ⟨_, hl, ⟨⟨rfl, rfl⟩, gf1 hLP⟩⟩, hSt1⟩)
theorem gw_lstore_n (C : gC X M) {n : Fin 4} {i : Nat} {x : Int64} {L2 : List (Nat × Value)} (hd : decode M.2.1 pc = .ok (.lstore_n n, 1)) (hi : (n : Nat) = i) (hn : i + 1 < M.2.2.1) (hL2 : (i, Value.long x) :: L.filter (fun q => !(q.1 == i) && (!(q.1 == i + 1) && !(q.1 + 1 == i && q.2.category == 2))) = L2) (k : GW X M (pc + 1) L2 S h kc ks) : GW X M pc L (.long x :: S) h kc ks := by
  obtain ⟨⟨p, l, e, R, s, m, args, below⟩, ⟨meth, c, D, b, A, s0, Z⟩⟩ := X
  obtain ⟨hx, hb, hml, hown, hts, hN, hK, hA⟩ := C
  intro ws H locs ls S' ⟨hP, hD, hS, hRH, hpre, hL, hSt⟩
  obtain ⟨S1', rfl, hSt1⟩ := gRS_long hSt
  obtain ⟨L', hl, hLP⟩ := hL
  subst hL2
  exact lv_lstore_n hx hb hd hi hl hn rfl (fun ls hl => k ws H locs ls _ ⟨hP, hD, hS, hRH, hpre, ⟨_, hl, ⟨⟨rfl, rfl⟩, gf2 hLP⟩⟩, hSt1⟩)
theorem gw_lstore (C : gC X M) {i : Nat} {x : Int64} {L2 : List (Nat × Value)} (hd : decode M.2.1 pc = .ok (.lstore i, 2)) (hn : i + 1 < M.2.2.1) (hL2 : (i, Value.long x) :: L.filter (fun q => !(q.1 == i) && (!(q.1 == i + 1) && !(q.1 + 1 == i && q.2.category == 2))) = L2) (k : GW X M (pc + 2) L2 S h kc ks) : GW X M pc L (.long x :: S) h kc ks := by
  obtain ⟨⟨p, l, e, R, s, m, args, below⟩, ⟨meth, c, D, b, A, s0, Z⟩⟩ := X
  obtain ⟨hx, hb, hml, hown, hts, hN, hK, hA⟩ := C
  intro ws H locs ls S' ⟨hP, hD, hS, hRH, hpre, hL, hSt⟩
  obtain ⟨S1', rfl, hSt1⟩ := gRS_long hSt
  obtain ⟨L', hl, hLP⟩ := hL
  subst hL2
  exact lv_lstore hx hb hd hl hn rfl (fun ls hl => k ws H locs ls _ ⟨hP, hD, hS, hRH, hpre, ⟨_, hl, ⟨⟨rfl, rfl⟩, gf2 hLP⟩⟩, hSt1⟩)
theorem gw_astore_n (C : gC X M) {n : Fin 4} {i : Nat} {x : Nat} {L2 : List (Nat × Value)} (hd : decode M.2.1 pc = .ok (.astore_n n, 1)) (hi : (n : Nat) = i) (hn : i < M.2.2.1) (hL2 : (i, Value.ref x) :: L.filter (fun q => !(q.1 == i) && !(q.1 + 1 == i && q.2.category == 2)) = L2) (k : GW X M (pc + 1) L2 S h kc ks) : GW X M pc L (.ref x :: S) h kc ks := by
  obtain ⟨⟨p, l, e, R, s, m, args, below⟩, ⟨meth, c, D, b, A, s0, Z⟩⟩ := X
  obtain ⟨hx, hb, hml, hown, hts, hN, hK, hA⟩ := C
  intro ws H locs ls S' ⟨hP, hD, hS, hRH, hpre, hL, hSt⟩
  obtain ⟨a, S1', ha, rfl, hSt1⟩ := gRS_ref hSt
  obtain ⟨L', hl, hLP⟩ := hL
  subst hL2
  exact lv_astore_n hx hb hd hi hl hn rfl (fun ls hl => k ws H locs ls _ ⟨hP, hD, hS, hRH, hpre, ⟨_, hl, ⟨⟨rfl, ⟨a, ha, rfl⟩⟩, gf1 hLP⟩⟩, hSt1⟩)
theorem gw_astore (C : gC X M) {i : Nat} {x : Nat} {L2 : List (Nat × Value)} (hd : decode M.2.1 pc = .ok (.astore i, 2)) (hn : i < M.2.2.1) (hL2 : (i, Value.ref x) :: L.filter (fun q => !(q.1 == i) && !(q.1 + 1 == i && q.2.category == 2)) = L2) (k : GW X M (pc + 2) L2 S h kc ks) : GW X M pc L (.ref x :: S) h kc ks := by
  obtain ⟨⟨p, l, e, R, s, m, args, below⟩, ⟨meth, c, D, b, A, s0, Z⟩⟩ := X
  obtain ⟨hx, hb, hml, hown, hts, hN, hK, hA⟩ := C
  intro ws H locs ls S' ⟨hP, hD, hS, hRH, hpre, hL, hSt⟩
  obtain ⟨a, S1', ha, rfl, hSt1⟩ := gRS_ref hSt
  obtain ⟨L', hl, hLP⟩ := hL
  subst hL2
  exact lv_astore hx hb hd hl hn rfl (fun ls hl => k ws H locs ls _ ⟨hP, hD, hS, hRH, hpre, ⟨_, hl, ⟨⟨rfl, ⟨a, ha, rfl⟩⟩, gf1 hLP⟩⟩, hSt1⟩)
theorem gw_astore_nN (C : gC X M) {n : Fin 4} {i : Nat} {L2 : List (Nat × Value)} (hd : decode M.2.1 pc = .ok (.astore_n n, 1)) (hi : (n : Nat) = i) (hn : i < M.2.2.1) (hL2 : (i, Value.null) :: L.filter (fun q => !(q.1 == i) && !(q.1 + 1 == i && q.2.category == 2)) = L2) (k : GW X M (pc + 1) L2 S h kc ks) : GW X M pc L (.null :: S) h kc ks := by
  obtain ⟨⟨p, l, e, R, s, m, args, below⟩, ⟨meth, c, D, b, A, s0, Z⟩⟩ := X
  obtain ⟨hx, hb, hml, hown, hts, hN, hK, hA⟩ := C
  intro ws H locs ls S' ⟨hP, hD, hS, hRH, hpre, hL, hSt⟩
  obtain ⟨S1', rfl, hSt1⟩ := gRS_null hSt
  obtain ⟨L', hl, hLP⟩ := hL
  subst hL2
  exact lv_astore_nN hx hb hd hi hl hn rfl (fun ls hl => k ws H locs ls _ ⟨hP, hD, hS, hRH, hpre, ⟨_, hl, ⟨⟨rfl, rfl⟩, gf1 hLP⟩⟩, hSt1⟩)
theorem gw_astoreN (C : gC X M) {i : Nat} {L2 : List (Nat × Value)} (hd : decode M.2.1 pc = .ok (.astore i, 2)) (hn : i < M.2.2.1) (hL2 : (i, Value.null) :: L.filter (fun q => !(q.1 == i) && !(q.1 + 1 == i && q.2.category == 2)) = L2) (k : GW X M (pc + 2) L2 S h kc ks) : GW X M pc L (.null :: S) h kc ks := by
  obtain ⟨⟨p, l, e, R, s, m, args, below⟩, ⟨meth, c, D, b, A, s0, Z⟩⟩ := X
  obtain ⟨hx, hb, hml, hown, hts, hN, hK, hA⟩ := C
  intro ws H locs ls S' ⟨hP, hD, hS, hRH, hpre, hL, hSt⟩
  obtain ⟨S1', rfl, hSt1⟩ := gRS_null hSt
  obtain ⟨L', hl, hLP⟩ := hL
  subst hL2
  exact lv_astoreN hx hb hd hl hn rfl (fun ls hl => k ws H locs ls _ ⟨hP, hD, hS, hRH, hpre, ⟨_, hl, ⟨⟨rfl, rfl⟩, gf1 hLP⟩⟩, hSt1⟩)
theorem gw_iinc (C : gC X M) {i : Nat} {n : Int} {x v : Int32} {L2 : List (Nat × Value)} (j : Nat) (hj : L[j]? = some (i, .int x)) (hd : decode M.2.1 pc = .ok (.iinc i n, 3)) (hv : x + Int32.ofInt n = v) (hn : i < M.2.2.1) (hL2 : (i, Value.int v) :: L.filter (fun q => !(q.1 == i) && !(q.1 + 1 == i && q.2.category == 2)) = L2) (k : GW X M (pc + 3) L2 S h kc ks) : GW X M pc L S h kc ks := by
  obtain ⟨⟨p, l, e, R, s, m, args, below⟩, ⟨meth, c, D, b, A, s0, Z⟩⟩ := X
  obtain ⟨hx, hb, hml, hown, hts, hN, hK, hA⟩ := C
  intro ws H locs ls S' ⟨hP, hD, hS, hRH, hpre, hL, hSt⟩
  obtain ⟨L', hl, hLP⟩ := hL
  obtain ⟨v', h1, h2⟩ := gRP_get hLP hj
  cases h2
  subst hL2
  exact lv_iinc hx hb hd hl h1 hv hn rfl (fun ls hl => k ws H locs ls _ ⟨hP, hD, hS, hRH, hpre, ⟨_, hl, ⟨⟨rfl, rfl⟩, gf1 hLP⟩⟩, hSt⟩)
theorem gw_sub {L2 : List (Nat × Value)} (is : List Nat) (hL2 : lv_pick L is = L2) (k : GW X M pc L2 S h kc ks) : GW X M pc L S h kc ks := by
  obtain ⟨⟨p, l, e, R, s, m, args, below⟩, ⟨meth, c, D, b, A, s0, Z⟩⟩ := X
  intro ws H locs ls S' ⟨hP, hD, hS, hRH, hpre, ⟨L', hl, hLP⟩, hSt⟩
  subst hL2
  exact k ws H locs ls _ ⟨hP, hD, hS, hRH, hpre, ⟨_, lv_sub hl is rfl, gRP_pick hLP is⟩, hSt⟩
theorem gw_if_eq (C : gC X M) {x : Int32} {off : Int} {tgt : Nat} (hd : decode M.2.1 pc = .ok (.ifCond .eq off, 3)) (ht : (pc : Int) + off = (tgt : Int)) (kt : x = 0 → GW X M tgt L S h kc ks) (kf : ¬ (x = 0) → GW X M (pc + 3) L S h kc ks) : GW X M pc L (.int x :: S) h kc ks := by
  obtain ⟨⟨p, l, e, R, s, m, args, below⟩, ⟨meth, c, D, b, A, s0, Z⟩⟩ := X
  obtain ⟨hx, hb, hml, hown, hts, hN, hK, hA⟩ := C
  intro ws H locs ls S' ⟨hP, hD, hS, hRH, hpre, hL, hSt⟩
  obtain ⟨S1', rfl, hSt1⟩ := gRS_int hSt
  exact lv_if_eq hx hb hd ht (fun q => kt q ws H locs ls _ ⟨hP, hD, hS, hRH, hpre, hL, hSt1⟩) (fun q => kf q ws H locs ls _ ⟨hP, hD, hS, hRH, hpre, hL, hSt1⟩)
theorem gw_icmp_eq (C : gC X M) {x y : Int32} {off : Int} {tgt : Nat} (hd : decode M.2.1 pc = .ok (.if_icmp .eq off, 3)) (ht : (pc : Int) + off = (tgt : Int)) (kt : x = y → GW X M tgt L S h kc ks) (kf : ¬ (x = y) → GW X M (pc + 3) L S h kc ks) : GW X M pc L (.int y :: .int x :: S) h kc ks := by
  obtain ⟨⟨p, l, e, R, s, m, args, below⟩, ⟨meth, c, D, b, A, s0, Z⟩⟩ := X
  obtain ⟨hx, hb, hml, hown, hts, hN, hK, hA⟩ := C
  intro ws H locs ls S' ⟨hP, hD, hS, hRH, hpre, hL, hSt⟩
  obtain ⟨S1', rfl, hSt1⟩ := gRS_int hSt
  obtain ⟨S2', rfl, hSt2⟩ := gRS_int hSt1
  exact lv_icmp_eq hx hb hd ht (fun q => kt q ws H locs ls _ ⟨hP, hD, hS, hRH, hpre, hL, hSt2⟩) (fun q => kf q ws H locs ls _ ⟨hP, hD, hS, hRH, hpre, hL, hSt2⟩)
theorem gw_if_ne (C : gC X M) {x : Int32} {off : Int} {tgt : Nat} (hd : decode M.2.1 pc = .ok (.ifCond .ne off, 3)) (ht : (pc : Int) + off = (tgt : Int)) (kt : ¬ x = 0 → GW X M tgt L S h kc ks) (kf : x = 0 → GW X M (pc + 3) L S h kc ks) : GW X M pc L (.int x :: S) h kc ks := by
  obtain ⟨⟨p, l, e, R, s, m, args, below⟩, ⟨meth, c, D, b, A, s0, Z⟩⟩ := X
  obtain ⟨hx, hb, hml, hown, hts, hN, hK, hA⟩ := C
  intro ws H locs ls S' ⟨hP, hD, hS, hRH, hpre, hL, hSt⟩
  obtain ⟨S1', rfl, hSt1⟩ := gRS_int hSt
  exact lv_if_ne hx hb hd ht (fun q => kt q ws H locs ls _ ⟨hP, hD, hS, hRH, hpre, hL, hSt1⟩) (fun q => kf q ws H locs ls _ ⟨hP, hD, hS, hRH, hpre, hL, hSt1⟩)
theorem gw_icmp_ne (C : gC X M) {x y : Int32} {off : Int} {tgt : Nat} (hd : decode M.2.1 pc = .ok (.if_icmp .ne off, 3)) (ht : (pc : Int) + off = (tgt : Int)) (kt : ¬ x = y → GW X M tgt L S h kc ks) (kf : x = y → GW X M (pc + 3) L S h kc ks) : GW X M pc L (.int y :: .int x :: S) h kc ks := by
  obtain ⟨⟨p, l, e, R, s, m, args, below⟩, ⟨meth, c, D, b, A, s0, Z⟩⟩ := X
  obtain ⟨hx, hb, hml, hown, hts, hN, hK, hA⟩ := C
  intro ws H locs ls S' ⟨hP, hD, hS, hRH, hpre, hL, hSt⟩
  obtain ⟨S1', rfl, hSt1⟩ := gRS_int hSt
  obtain ⟨S2', rfl, hSt2⟩ := gRS_int hSt1
  exact lv_icmp_ne hx hb hd ht (fun q => kt q ws H locs ls _ ⟨hP, hD, hS, hRH, hpre, hL, hSt2⟩) (fun q => kf q ws H locs ls _ ⟨hP, hD, hS, hRH, hpre, hL, hSt2⟩)
theorem gw_if_lt (C : gC X M) {x : Int32} {off : Int} {tgt : Nat} (hd : decode M.2.1 pc = .ok (.ifCond .lt off, 3)) (ht : (pc : Int) + off = (tgt : Int)) (kt : x < 0 → GW X M tgt L S h kc ks) (kf : ¬ (x < 0) → GW X M (pc + 3) L S h kc ks) : GW X M pc L (.int x :: S) h kc ks := by
  obtain ⟨⟨p, l, e, R, s, m, args, below⟩, ⟨meth, c, D, b, A, s0, Z⟩⟩ := X
  obtain ⟨hx, hb, hml, hown, hts, hN, hK, hA⟩ := C
  intro ws H locs ls S' ⟨hP, hD, hS, hRH, hpre, hL, hSt⟩
  obtain ⟨S1', rfl, hSt1⟩ := gRS_int hSt
  exact lv_if_lt hx hb hd ht (fun q => kt q ws H locs ls _ ⟨hP, hD, hS, hRH, hpre, hL, hSt1⟩) (fun q => kf q ws H locs ls _ ⟨hP, hD, hS, hRH, hpre, hL, hSt1⟩)
theorem gw_icmp_lt (C : gC X M) {x y : Int32} {off : Int} {tgt : Nat} (hd : decode M.2.1 pc = .ok (.if_icmp .lt off, 3)) (ht : (pc : Int) + off = (tgt : Int)) (kt : x < y → GW X M tgt L S h kc ks) (kf : ¬ (x < y) → GW X M (pc + 3) L S h kc ks) : GW X M pc L (.int y :: .int x :: S) h kc ks := by
  obtain ⟨⟨p, l, e, R, s, m, args, below⟩, ⟨meth, c, D, b, A, s0, Z⟩⟩ := X
  obtain ⟨hx, hb, hml, hown, hts, hN, hK, hA⟩ := C
  intro ws H locs ls S' ⟨hP, hD, hS, hRH, hpre, hL, hSt⟩
  obtain ⟨S1', rfl, hSt1⟩ := gRS_int hSt
  obtain ⟨S2', rfl, hSt2⟩ := gRS_int hSt1
  exact lv_icmp_lt hx hb hd ht (fun q => kt q ws H locs ls _ ⟨hP, hD, hS, hRH, hpre, hL, hSt2⟩) (fun q => kf q ws H locs ls _ ⟨hP, hD, hS, hRH, hpre, hL, hSt2⟩)
theorem gw_if_ge (C : gC X M) {x : Int32} {off : Int} {tgt : Nat} (hd : decode M.2.1 pc = .ok (.ifCond .ge off, 3)) (ht : (pc : Int) + off = (tgt : Int)) (kt : 0 ≤ x → GW X M tgt L S h kc ks) (kf : ¬ (0 ≤ x) → GW X M (pc + 3) L S h kc ks) : GW X M pc L (.int x :: S) h kc ks := by
  obtain ⟨⟨p, l, e, R, s, m, args, below⟩, ⟨meth, c, D, b, A, s0, Z⟩⟩ := X
  obtain ⟨hx, hb, hml, hown, hts, hN, hK, hA⟩ := C
  intro ws H locs ls S' ⟨hP, hD, hS, hRH, hpre, hL, hSt⟩
  obtain ⟨S1', rfl, hSt1⟩ := gRS_int hSt
  exact lv_if_ge hx hb hd ht (fun q => kt q ws H locs ls _ ⟨hP, hD, hS, hRH, hpre, hL, hSt1⟩) (fun q => kf q ws H locs ls _ ⟨hP, hD, hS, hRH, hpre, hL, hSt1⟩)
theorem gw_icmp_ge (C : gC X M) {x y : Int32} {off : Int} {tgt : Nat} (hd : decode M.2.1 pc = .ok (.if_icmp .ge off, 3)) (ht : (pc : Int) + off = (tgt : Int)) (kt : y ≤ x → GW X M tgt L S h kc ks) (kf : ¬ (y ≤ x) → GW X M (pc + 3) L S h kc ks) : GW X M pc L (.int y :: .int x :: S) h kc ks := by
  obtain ⟨⟨p, l, e, R, s, m, args, below⟩, ⟨meth, c, D, b, A, s0, Z⟩⟩ := X
  obtain ⟨hx, hb, hml, hown, hts, hN, hK, hA⟩ := C
  intro ws H locs ls S' ⟨hP, hD, hS, hRH, hpre, hL, hSt⟩
  obtain ⟨S1', rfl, hSt1⟩ := gRS_int hSt
  obtain ⟨S2', rfl, hSt2⟩ := gRS_int hSt1
  exact lv_icmp_ge hx hb hd ht (fun q => kt q ws H locs ls _ ⟨hP, hD, hS, hRH, hpre, hL, hSt2⟩) (fun q => kf q ws H locs ls _ ⟨hP, hD, hS, hRH, hpre, hL, hSt2⟩)
theorem gw_if_gt (C : gC X M) {x : Int32} {off : Int} {tgt : Nat} (hd : decode M.2.1 pc = .ok (.ifCond .gt off, 3)) (ht : (pc : Int) + off = (tgt : Int)) (kt : 0 < x → GW X M tgt L S h kc ks) (kf : ¬ (0 < x) → GW X M (pc + 3) L S h kc ks) : GW X M pc L (.int x :: S) h kc ks := by
  obtain ⟨⟨p, l, e, R, s, m, args, below⟩, ⟨meth, c, D, b, A, s0, Z⟩⟩ := X
  obtain ⟨hx, hb, hml, hown, hts, hN, hK, hA⟩ := C
  intro ws H locs ls S' ⟨hP, hD, hS, hRH, hpre, hL, hSt⟩
  obtain ⟨S1', rfl, hSt1⟩ := gRS_int hSt
  exact lv_if_gt hx hb hd ht (fun q => kt q ws H locs ls _ ⟨hP, hD, hS, hRH, hpre, hL, hSt1⟩) (fun q => kf q ws H locs ls _ ⟨hP, hD, hS, hRH, hpre, hL, hSt1⟩)
theorem gw_icmp_gt (C : gC X M) {x y : Int32} {off : Int} {tgt : Nat} (hd : decode M.2.1 pc = .ok (.if_icmp .gt off, 3)) (ht : (pc : Int) + off = (tgt : Int)) (kt : y < x → GW X M tgt L S h kc ks) (kf : ¬ (y < x) → GW X M (pc + 3) L S h kc ks) : GW X M pc L (.int y :: .int x :: S) h kc ks := by
  obtain ⟨⟨p, l, e, R, s, m, args, below⟩, ⟨meth, c, D, b, A, s0, Z⟩⟩ := X
  obtain ⟨hx, hb, hml, hown, hts, hN, hK, hA⟩ := C
  intro ws H locs ls S' ⟨hP, hD, hS, hRH, hpre, hL, hSt⟩
  obtain ⟨S1', rfl, hSt1⟩ := gRS_int hSt
  obtain ⟨S2', rfl, hSt2⟩ := gRS_int hSt1
  exact lv_icmp_gt hx hb hd ht (fun q => kt q ws H locs ls _ ⟨hP, hD, hS, hRH, hpre, hL, hSt2⟩) (fun q => kf q ws H locs ls _ ⟨hP, hD, hS, hRH, hpre, hL, hSt2⟩)
theorem gw_if_le (C : gC X M) {x : Int32} {off : Int} {tgt : Nat} (hd : decode M.2.1 pc = .ok (.ifCond .le off, 3)) (ht : (pc : Int) + off = (tgt : Int)) (kt : x ≤ 0 → GW X M tgt L S h kc ks) (kf : ¬ (x ≤ 0) → GW X M (pc + 3) L S h kc ks) : GW X M pc L (.int x :: S) h kc ks := by
  obtain ⟨⟨p, l, e, R, s, m, args, below⟩, ⟨meth, c, D, b, A, s0, Z⟩⟩ := X
  obtain ⟨hx, hb, hml, hown, hts, hN, hK, hA⟩ := C
  intro ws H locs ls S' ⟨hP, hD, hS, hRH, hpre, hL, hSt⟩
  obtain ⟨S1', rfl, hSt1⟩ := gRS_int hSt
  exact lv_if_le hx hb hd ht (fun q => kt q ws H locs ls _ ⟨hP, hD, hS, hRH, hpre, hL, hSt1⟩) (fun q => kf q ws H locs ls _ ⟨hP, hD, hS, hRH, hpre, hL, hSt1⟩)
theorem gw_icmp_le (C : gC X M) {x y : Int32} {off : Int} {tgt : Nat} (hd : decode M.2.1 pc = .ok (.if_icmp .le off, 3)) (ht : (pc : Int) + off = (tgt : Int)) (kt : x ≤ y → GW X M tgt L S h kc ks) (kf : ¬ (x ≤ y) → GW X M (pc + 3) L S h kc ks) : GW X M pc L (.int y :: .int x :: S) h kc ks := by
  obtain ⟨⟨p, l, e, R, s, m, args, below⟩, ⟨meth, c, D, b, A, s0, Z⟩⟩ := X
  obtain ⟨hx, hb, hml, hown, hts, hN, hK, hA⟩ := C
  intro ws H locs ls S' ⟨hP, hD, hS, hRH, hpre, hL, hSt⟩
  obtain ⟨S1', rfl, hSt1⟩ := gRS_int hSt
  obtain ⟨S2', rfl, hSt2⟩ := gRS_int hSt1
  exact lv_icmp_le hx hb hd ht (fun q => kt q ws H locs ls _ ⟨hP, hD, hS, hRH, hpre, hL, hSt2⟩) (fun q => kf q ws H locs ls _ ⟨hP, hD, hS, hRH, hpre, hL, hSt2⟩)
theorem gw_goto (C : gC X M) {off : Int} {tgt : Nat} (hd : decode M.2.1 pc = .ok (.goto off, 3)) (ht : (pc : Int) + off = (tgt : Int)) (k : GW X M tgt L S h kc ks) : GW X M pc L S h kc ks := by
  obtain ⟨⟨p, l, e, R, s, m, args, below⟩, ⟨meth, c, D, b, A, s0, Z⟩⟩ := X
  obtain ⟨hx, hb, hml, hown, hts, hN, hK, hA⟩ := C
  intro ws H locs ls S' ⟨hP, hD, hS, hRH, hpre, hL, hSt⟩
  exact lv_goto hx hb hd ht (k ws H locs ls _ ⟨hP, hD, hS, hRH, hpre, hL, hSt⟩)
theorem gw_ifnonnull (C : gC X M) {x : Nat} {off : Int} {tgt : Nat} (hd : decode M.2.1 pc = .ok (.ifnonnull off, 3)) (ht : (pc : Int) + off = (tgt : Int)) (k : GW X M tgt L S h kc ks) : GW X M pc L (.ref x :: S) h kc ks := by
  obtain ⟨⟨p, l, e, R, s, m, args, below⟩, ⟨meth, c, D, b, A, s0, Z⟩⟩ := X
  obtain ⟨hx, hb, hml, hown, hts, hN, hK, hA⟩ := C
  intro ws H locs ls S' ⟨hP, hD, hS, hRH, hpre, hL, hSt⟩
  obtain ⟨a, S1', ha, rfl, hSt1⟩ := gRS_ref hSt
  exact lv_ifnonnull hx hb hd ht (k ws H locs ls _ ⟨hP, hD, hS, hRH, hpre, hL, hSt1⟩)
theorem gw_ifnonnullN (C : gC X M) {off : Int} (hd : decode M.2.1 pc = .ok (.ifnonnull off, 3)) (k : GW X M (pc + 3) L S h kc ks) : GW X M pc L (.null :: S) h kc ks := by
  obtain ⟨⟨p, l, e, R, s, m, args, below⟩, ⟨meth, c, D, b, A, s0, Z⟩⟩ := X
  obtain ⟨hx, hb, hml, hown, hts, hN, hK, hA⟩ := C
  intro ws H locs ls S' ⟨hP, hD, hS, hRH, hpre, hL, hSt⟩
  obtain ⟨S1', rfl, hSt1⟩ := gRS_null hSt
  exact lv_ifnonnullN hx hb hd (k ws H locs ls _ ⟨hP, hD, hS, hRH, hpre, hL, hSt1⟩)
theorem gw_ifnull (C : gC X M) {x : Nat} {off : Int} (hd : decode M.2.1 pc = .ok (.ifnull off, 3)) (k : GW X M (pc + 3) L S h kc ks) : GW X M pc L (.ref x :: S) h kc ks := by
  obtain ⟨⟨p, l, e, R, s, m, args, below⟩, ⟨meth, c, D, b, A, s0, Z⟩⟩ := X
  obtain ⟨hx, hb, hml, hown, hts, hN, hK, hA⟩ := C
  intro ws H locs ls S' ⟨hP, hD, hS, hRH, hpre, hL, hSt⟩
  obtain ⟨a, S1', ha, rfl, hSt1⟩ := gRS_ref hSt
  exact lv_ifnull hx hb hd (k ws H locs ls _ ⟨hP, hD, hS, hRH, hpre, hL, hSt1⟩)
theorem gw_ifnullN (C : gC X M) {off : Int} {tgt : Nat} (hd : decode M.2.1 pc = .ok (.ifnull off, 3)) (ht : (pc : Int) + off = (tgt : Int)) (k : GW X M tgt L S h kc ks) : GW X M pc L (.null :: S) h kc ks := by
  obtain ⟨⟨p, l, e, R, s, m, args, below⟩, ⟨meth, c, D, b, A, s0, Z⟩⟩ := X
  obtain ⟨hx, hb, hml, hown, hts, hN, hK, hA⟩ := C
  intro ws H locs ls S' ⟨hP, hD, hS, hRH, hpre, hL, hSt⟩
  obtain ⟨S1', rfl, hSt1⟩ := gRS_null hSt
  exact lv_ifnullN hx hb hd ht (k ws H locs ls _ ⟨hP, hD, hS, hRH, hpre, hL, hSt1⟩)
theorem gw_tableOut (C : gC X M) {dflt lo hi : Int} {offs : Array Int} {len : Nat} {x : Int32} {tgt : Nat} (hd : decode M.2.1 pc = .ok (.tableswitch dflt lo hi offs, len)) (hq : x.toInt < lo ∨ hi < x.toInt) (ht : (pc : Int) + dflt = (tgt : Int)) (k : GW X M tgt L S h kc ks) : GW X M pc L (.int x :: S) h kc ks := by
  obtain ⟨⟨p, l, e, R, s, m, args, below⟩, ⟨meth, c, D, b, A, s0, Z⟩⟩ := X
  obtain ⟨hx, hb, hml, hown, hts, hN, hK, hA⟩ := C
  intro ws H locs ls S' ⟨hP, hD, hS, hRH, hpre, hL, hSt⟩
  obtain ⟨S1', rfl, hSt1⟩ := gRS_int hSt
  exact lv_tableOut hx hb hd hq ht (k ws H locs ls _ ⟨hP, hD, hS, hRH, hpre, hL, hSt1⟩)
theorem gw_tableIn (C : gC X M) {dflt lo hi : Int} {offs : Array Int} {len : Nat} {x : Int32} {off : Int} {tgt : Nat} (hd : decode M.2.1 pc = .ok (.tableswitch dflt lo hi offs, len)) (h1 : ¬ x.toInt < lo) (h2 : ¬ hi < x.toInt) (ho : offs[(x.toInt - lo).toNat]? = some off) (ht : (pc : Int) + off = (tgt : Int)) (k : GW X M tgt L S h kc ks) : GW X M pc L (.int x :: S) h kc ks := by
  obtain ⟨⟨p, l, e, R, s, m, args, below⟩, ⟨meth, c, D, b, A, s0, Z⟩⟩ := X
  obtain ⟨hx, hb, hml, hown, hts, hN, hK, hA⟩ := C
  intro ws H locs ls S' ⟨hP, hD, hS, hRH, hpre, hL, hSt⟩
  obtain ⟨S1', rfl, hSt1⟩ := gRS_int hSt
  exact lv_tableIn hx hb hd h1 h2 ho ht (k ws H locs ls _ ⟨hP, hD, hS, hRH, hpre, hL, hSt1⟩)
theorem gw_dup (C : gC X M) {v : Value} (hd : decode M.2.1 pc = .ok (.dup, 1)) (hc : v.category = 1) (k : GW X M (pc + 1) L (v :: v :: S) h kc ks) : GW X M pc L (v :: S) h kc ks := by
  obtain ⟨⟨p, l, e, R, s, m, args, below⟩, ⟨meth, c, D, b, A, s0, Z⟩⟩ := X
  obtain ⟨hx, hb, hml, hown, hts, hN, hK, hA⟩ := C
  intro ws H locs ls S' ⟨hP, hD, hS, hRH, hpre, hL, hSt⟩
  obtain ⟨v', S1', rfl, hv, hSt1⟩ := gRS_cons hSt
  exact lv_dup hx hb hd (by rw [gRV_cat hv]; exact hc) (k ws H locs ls _ ⟨hP, hD, hS, hRH, hpre, hL, hv, hv, hSt1⟩)
theorem gw_dup2 (C : gC X M) {v w : Value} (hd : decode M.2.1 pc = .ok (.dup2, 1)) (hc : v.category = 1) (hc2 : w.category = 1) (k : GW X M (pc + 1) L (v :: w :: v :: w :: S) h kc ks) : GW X M pc L (v :: w :: S) h kc ks := by
  obtain ⟨⟨p, l, e, R, s, m, args, below⟩, ⟨meth, c, D, b, A, s0, Z⟩⟩ := X
  obtain ⟨hx, hb, hml, hown, hts, hN, hK, hA⟩ := C
  intro ws H locs ls S' ⟨hP, hD, hS, hRH, hpre, hL, hSt⟩
  obtain ⟨v', S1', rfl, hv, hSt1⟩ := gRS_cons hSt
  obtain ⟨w', S2', rfl, hw, hSt2⟩ := gRS_cons hSt1
  exact lv_dup2_11 hx hb hd (by rw [gRV_cat hv]; exact hc) (by rw [gRV_cat hw]; exact hc2) (k ws H locs ls _ ⟨hP, hD, hS, hRH, hpre, hL, hv, hw, hv, hw, hSt2⟩)
theorem gw_iald (C : gC X M) {q n : Nat} {i : Int32} {f : Nat → Int32} (hq : h[q]? = some (.inl (.int, n, .inl f))) (hin : vp_in i n) (hd : decode M.2.1 pc = .ok (.iaload, 1)) (k : GW X M (pc + 1) L (.int (f i.toNatClampNeg) :: S) h kc ks) : GW X M pc L (.int i :: .ref (q + 1) :: S) h kc ks := by
  obtain ⟨⟨p, l, e, R, s, m, args, below⟩, ⟨meth, c, D, b, A, s0, Z⟩⟩ := X
  obtain ⟨hx, hb, hml, hown, hts, hN, hK, hA⟩ := C
  intro ws H locs ls S' ⟨hP, hD, hS, hRH, hpre, hL, hSt⟩
  obtain ⟨S1', rfl, hSt1⟩ := gRS_int hSt
  obtain ⟨a, S2', ha, rfl, hSt2⟩ := gRS_ref hSt1
  obtain ⟨e', he, cA, a', rfl, hA1, hA2, hra⟩ := gRH_at hRH hq ha
  cases hra
  exact va_iald hx hb (tys := [(cA, .int)]) ⟨hK.1, fun k q hk => by cases k with | zero => cases hk; exact ⟨hA1, hA2⟩ | succ k => simp at hk⟩ hP q 0 he rfl hin hd (k ws H locs ls _ ⟨hP, hD, hS, hRH, hpre, hL, rfl, hSt2⟩)
theorem gw_bald (C : gC X M) {q n : Nat} {i : Int32} {f : Nat → Int32} (hq : h[q]? = some (.inl (.byte, n, .inl f))) (hin : vp_in i n) (hd : decode M.2.1 pc = .ok (.baload, 1)) (k : GW X M (pc + 1) L (.int (f i.toNatClampNeg) :: S) h kc ks) : GW X M pc L (.int i :: .ref (q + 1) :: S) h kc ks := by
  obtain ⟨⟨p, l, e, R, s, m, args, below⟩, ⟨meth, c, D, b, A, s0, Z⟩⟩ := X
  obtain ⟨hx, hb, hml, hown, hts, hN, hK, hA⟩ := C
  intro ws H locs ls S' ⟨hP, hD, hS, hRH, hpre, hL, hSt⟩
  obtain ⟨S1', rfl, hSt1⟩ := gRS_int hSt
  obtain ⟨a, S2', ha, rfl, hSt2⟩ := gRS_ref hSt1
  obtain ⟨e', he, cA, a', rfl, hA1, hA2, hra⟩ := gRH_at hRH hq ha
  cases hra
  exact va_bald hx hb (tys := [(cA, .byte)]) ⟨hK.1, fun k q hk => by cases k with | zero => cases hk; exact ⟨hA1, hA2⟩ | succ k => simp at hk⟩ hP q 0 he rfl hin hd (k ws H locs ls _ ⟨hP, hD, hS, hRH, hpre, hL, rfl, hSt2⟩)
theorem gw_lald (C : gC X M) {q n : Nat} {i : Int32} {f : Nat → Int64} (hq : h[q]? = some (.inl (.long, n, .inr (.inl f)))) (hin : vp_in i n) (hd : decode M.2.1 pc = .ok (.laload, 1)) (k : GW X M (pc + 1) L (.long (f i.toNatClampNeg) :: S) h kc ks) : GW X M pc L (.int i :: .ref (q + 1) :: S) h kc ks := by
  obtain ⟨⟨p, l, e, R, s, m, args, below⟩, ⟨meth, c, D, b, A, s0, Z⟩⟩ := X
  obtain ⟨hx, hb, hml, hown, hts, hN, hK, hA⟩ := C
  intro ws H locs ls S' ⟨hP, hD, hS, hRH, hpre, hL, hSt⟩
  obtain ⟨S1', rfl, hSt1⟩ := gRS_int hSt
  obtain ⟨a, S2', ha, rfl, hSt2⟩ := gRS_ref hSt1
  obtain ⟨e', he, cA, a', rfl, hA1, hA2, hra⟩ := gRH_at hRH hq ha
  cases hra
  exact va_lald hx hb (tys := [(cA, .long)]) ⟨hK.1, fun k q hk => by cases k with | zero => cases hk; exact ⟨hA1, hA2⟩ | succ k => simp at hk⟩ hP q 0 he rfl hin hd (k ws H locs ls _ ⟨hP, hD, hS, hRH, hpre, hL, rfl, hSt2⟩)
theorem gw_iast (C : gC X M) {q n : Nat} {i : Int32} {x : Int32} {f : Nat → Int32} (hq : h[q]? = some (.inl (.int, n, .inl f))) (hin : vp_in i n) (hd : decode M.2.1 pc = .ok (.iastore, 1)) (k : GW X M (pc + 1) L S (h.set q (.inl (.int, n, .inl (upd f i.toNatClampNeg x)))) kc ks) : GW X M pc L (.int x :: .int i :: .ref (q + 1) :: S) h kc ks := by
  obtain ⟨⟨p, l, e, R, s, m, args, below⟩, ⟨meth, c, D, b, A, s0, Z⟩⟩ := X
  obtain ⟨hx, hb, hml, hown, hts, hN, hK, hA⟩ := C
  intro ws H locs ls S' ⟨hP, hD, hS, hRH, hpre, hL, hSt⟩
  obtain ⟨S1', rfl, hSt1⟩ := gRS_int hSt
  obtain ⟨S2', rfl, hSt2⟩ := gRS_int hSt1
  obtain ⟨a, S3', ha, rfl, hSt3⟩ := gRS_ref hSt2
  obtain ⟨e', he, cA, a', rfl, hA1, hA2, hra⟩ := gRH_at hRH hq ha
  cases hra
  refine va_iast hx hb (tys := [(cA, .int)]) ⟨hK.1, fun k q hk => by cases k with | zero => cases hk; exact ⟨hA1, hA2⟩ | succ k => simp at hk⟩ hP hD hS q 0 he rfl hin hd (fun H1 locs1 hP1 hD1 hS1 => ?_)
  refine k _ H1 locs1 ls _ ⟨hP1, hD1, hS1, gRH_set hRH he ⟨cA, _, rfl, hA1, hA2, rfl⟩, ?_, ?_, ?_⟩
  · rw [gmap_set he]; exact hpre
  · rw [gmap_set he]; exact hL
  · rw [gmap_set he]; exact hSt3
theorem gw_bast (C : gC X M) {q n : Nat} {i : Int32} {x : Int32} {f : Nat → Int32} (hq : h[q]? = some (.inl (.byte, n, .inl f))) (hin : vp_in i n) (hd : decode M.2.1 pc = .ok (.bastore, 1)) (k : GW X M (pc + 1) L S (h.set q (.inl (.byte, n, .inl (upd f i.toNatClampNeg (vp_nar .byte x))))) kc ks) : GW X M pc L (.int x :: .int i :: .ref (q + 1) :: S) h kc ks := by
  obtain ⟨⟨p, l, e, R, s, m, args, below⟩, ⟨meth, c, D, b, A, s0, Z⟩⟩ := X
  obtain ⟨hx, hb, hml, hown, hts, hN, hK, hA⟩ := C
  intro ws H locs ls S' ⟨hP, hD, hS, hRH, hpre, hL, hSt⟩
  obtain ⟨S1', rfl, hSt1⟩ := gRS_int hSt
  obtain ⟨S2', rfl, hSt2⟩ := gRS_int hSt1
  obtain ⟨a, S3', ha, rfl, hSt3⟩ := gRS_ref hSt2
  obtain ⟨e', he, cA, a', rfl, hA1, hA2, hra⟩ := gRH_at hRH hq ha
  cases hra
  refine va_bast hx hb (tys := [(cA, .byte)]) ⟨hK.1, fun k q hk => by cases k with | zero => cases hk; exact ⟨hA1, hA2⟩ | succ k => simp at hk⟩ hP hD hS q 0 he rfl hin hd (fun H1 locs1 hP1 hD1 hS1 => ?_)
  refine k _ H1 locs1 ls _ ⟨hP1, hD1, hS1, gRH_set hRH he ⟨cA, _, rfl, hA1, hA2, rfl⟩, ?_, ?_, ?_⟩
  · rw [gmap_set he]; exact hpre
  · rw [gmap_set he]; exact hL
  · rw [gmap_set he]; exact hSt3
theorem gw_last (C : gC X M) {q n : Nat} {i : Int32} {x : Int64} {f : Nat → Int64} (hq : h[q]? = some (.inl (.long, n, .inr (.inl f)))) (hin : vp_in i n) (hd : decode M.2.1 pc = .ok (.lastore, 1)) (k : GW X M (pc + 1) L S (h.set q (.inl (.long, n, .inr (.inl (vp_updL f i.toNatClampNeg x))))) kc ks) : GW X M pc L (.long x :: .int i :: .ref (q + 1) :: S) h kc ks := by
  obtain ⟨⟨p, l, e, R, s, m, args, below⟩, ⟨meth, c, D, b, A, s0, Z⟩⟩ := X
  obtain ⟨hx, hb, hml, hown, hts, hN, hK, hA⟩ := C
  intro ws H locs ls S' ⟨hP, hD, hS, hRH, hpre, hL, hSt⟩
  obtain ⟨S1', rfl, hSt1⟩ := gRS_long hSt
  obtain ⟨S2', rfl, hSt2⟩ := gRS_int hSt1
  obtain ⟨a, S3', ha, rfl, hSt3⟩ := gRS_ref hSt2
  obtain ⟨e', he, cA, a', rfl, hA1, hA2, hra⟩ := gRH_at hRH hq ha
  cases hra
  refine va_last hx hb (tys := [(cA, .long)]) ⟨hK.1, fun k q hk => by cases k with | zero => cases hk; exact ⟨hA1, hA2⟩ | succ k => simp at hk⟩ hP hD hS q 0 he rfl hin hd (fun H1 locs1 hP1 hD1 hS1 => ?_)
  refine k _ H1 locs1 ls _ ⟨hP1, hD1, hS1, gRH_set hRH he ⟨cA, _, rfl, hA1, hA2, rfl⟩, ?_, ?_, ?_⟩
  · rw [gmap_set he]; exact hpre
  · rw [gmap_set he]; exact hL
  · rw [gmap_set he]; exact hSt3
theorem gw_aald (C : gC X M) {q n r : Nat} {Cn : String} {i : Int32} {f : Nat → Option Nat} (hq : h[q]? = some (.inl (.object Cn, n, .inr (.inr (.inr (.inr f)))))) (hin : vp_in i n) (hr : f i.toNatClampNeg = some r) (hd : decode M.2.1 pc = .ok (.aaload, 1)) (k : GW X M (pc + 1) L (.ref r :: S) h kc ks) : GW X M pc L (.int i :: .ref (q + 1) :: S) h kc ks := by
  obtain ⟨⟨p, l, e, R, s, m, args, below⟩, ⟨meth, c, D, b, A, s0, Z⟩⟩ := X
  obtain ⟨hx, hb, hml, hown, hts, hN, hK, hA⟩ := C
  intro ws H locs ls S' ⟨hP, hD, hS, hRH, hpre, hL, hSt⟩
  obtain ⟨S1', rfl, hSt1⟩ := gRS_int hSt
  obtain ⟨a, S2', ha, rfl, hSt2⟩ := gRS_ref hSt1
  obtain ⟨e', he, cA, a', rfl, hA1, hA2, f', rfl, hff⟩ := gRH_at hRH hq ha
  have h1 := hff i.toNatClampNeg
  rw [hr] at h1
  obtain ⟨a1, h2, h3⟩ := h1
  refine va_aldq hx hb (tys := [(cA, .object Cn)]) ⟨hK.1, fun k q hk => by cases k with | zero => cases hk; exact ⟨hA1, hA2⟩ | succ k => simp at hk⟩ hP q 0 he rfl hin hd ?_
  rw [h3]
  exact k ws H locs ls _ ⟨hP, hD, hS, hRH, hpre, hL, ⟨a1, h2, rfl⟩, hSt2⟩
theorem gw_aast (C : gC X M) {q n r ci : Nat} {w : vw_C} {vs : List Value} {i : Int32} {f : Nat → Option Nat} (hq : h[q]? = some (.inl (.object w.1, n, .inr (.inr (.inr (.inr f)))))) (hr : h[r]? = some (.inr (ci, vs))) (hc : gcl[ci]? = some w) (hin : vp_in i n) (hd : decode M.2.1 pc = .ok (.aastore, 1)) (k : GW X M (pc + 1) L S (h.set q (.inl (.object w.1, n, .inr (.inr (.inr (.inr (va_up f i.toNatClampNeg (some (r + 1))))))))) kc ks) : GW X M pc L (.ref (r + 1) :: .int i :: .ref (q + 1) :: S) h kc ks := by
  obtain ⟨⟨p, l, e, R, s, m, args, below⟩, ⟨meth, c, D, b, A, s0, Z⟩⟩ := X
  obtain ⟨hx, hb, hml, hown, hts, hN, hK, hA⟩ := C
  intro ws H locs ls S' ⟨hP, hD, hS, hRH, hpre, hL, hSt⟩
  obtain ⟨av, S1', hav, rfl, hSt1⟩ := gRS_ref hSt
  obtain ⟨S2', rfl, hSt2⟩ := gRS_int hSt1
  obtain ⟨a, S3', ha, rfl, hSt3⟩ := gRS_ref hSt2
  obtain ⟨e', he, cA, a', rfl, hA1, hA2, f', rfl, hff⟩ := gRH_at hRH hq ha
  obtain ⟨e2, he2, fs', rfl, hfs⟩ := gRH_at hRH hr hav
  refine va_astq hx hb (tys := [(cA, .object w.1)]) ⟨hK.1, fun k q hk => by cases k with | zero => cases hk; exact ⟨hA1, hA2⟩ | succ k => simp at hk⟩ hP hD hS q 0 r ci he rfl he2 hc hin hd (fun H1 locs1 hP1 hD1 hS1 => ?_)
  refine k _ H1 locs1 ls _ ⟨hP1, hD1, hS1, gRH_set hRH he ⟨cA, _, rfl, hA1, hA2, _, rfl, fun j => ?_⟩, ?_, ?_, ?_⟩
  · unfold va_up
    split
    · exact ⟨av, hav, rfl⟩
    · exact hff j
  · rw [gmap_set he]; exact hpre
  · rw [gmap_set he]; exact hL
  · rw [gmap_set he]; exact hSt3
theorem gw_alen (C : gC X M) {q : Nat} {ty : FieldType} {x : vp_A} {v : Int32} (hq : h[q]? = some (.inl (ty, x))) (hv : Int32.ofNat x.1 = v) (hd : decode M.2.1 pc = .ok (.arraylength, 1)) (k : GW X M (pc + 1) L (.int v :: S) h kc ks) : GW X M pc L (.ref (q + 1) :: S) h kc ks := by
  obtain ⟨⟨p, l, e, R, s, m, args, below⟩, ⟨meth, c, D, b, A, s0, Z⟩⟩ := X
  obtain ⟨hx, hb, hml, hown, hts, hN, hK, hA⟩ := C
  intro ws H locs ls S' ⟨hP, hD, hS, hRH, hpre, hL, hSt⟩
  obtain ⟨a, S1', ha, rfl, hSt1⟩ := gRS_ref hSt
  obtain ⟨e', he, cA, a', rfl, hA1, hA2, hra⟩ := gRH_at hRH hq ha
  exact va_alen hx hb (tys := [(cA, ty)]) ⟨hK.1, fun k q hk => by cases k with | zero => cases hk; exact ⟨hA1, hA2⟩ | succ k => simp at hk⟩ hP q 0 he rfl hv hd (k ws H locs ls _ ⟨hP, hD, hS, hRH, hpre, hL, rfl, hSt1⟩)
theorem gw_get (C : gC X M) {q ci index N : Nat} {Cn : String} {T : u_T} {fs : List Value} {v : Value} (hq : h[q]? = some (.inr (ci, fs))) (hc : gcl[ci]? = some (Cn, T, N)) (hin : ∀ w ∈ u_ws Cn T N, w ∈ gT) (j : Nat) (hj : j < N) (hl : Cond.fieldLink M.1.cls index (T j).1 (T j).2.1 (T j).2.2.1 ∈ gT) (hv : fs[j]? = some v) (hd : decode M.2.1 pc = .ok (.getfield index, 3)) (k : GW X M (pc + 3) L (v :: S) h kc ks) : GW X M pc L (.ref (q + 1) :: S) h kc ks := by
  obtain ⟨⟨p, l, e, R, s, m, args, below⟩, ⟨meth, c, D, b, A, s0, Z⟩⟩ := X
  obtain ⟨hx, hb, hml, hown, hts, hN, hK, hA⟩ := C
  intro ws H locs ls S' ⟨hP, hD, hS, hRH, hpre, hL, hSt⟩
  obtain ⟨a, S1', ha, rfl, hSt1⟩ := gRS_ref hSt
  obtain ⟨e', he, fs', rfl, hfs⟩ := gRH_at hRH hq ha
  obtain ⟨v', hv1, hv2⟩ := gRS_get hfs hv
  exact va_get hx hb hts hin hown hK hP q he hc j hj (hts _ hl) (fun _ h9 => h9) hv1 hd (k ws H locs ls _ ⟨hP, hD, hS, hRH, hpre, hL, hv2, hSt1⟩)
theorem gw_put (C : gC X M) {q ci index N : Nat} {Cn : String} {T : u_T} {fs : List Value} {v : Value} (hq : h[q]? = some (.inr (ci, fs))) (hc : gcl[ci]? = some (Cn, T, N)) (hin : ∀ w ∈ u_ws Cn T N, w ∈ gT) (ty0 : Nat → FieldType) (hty : ∀ k, k < N → parseFieldDescriptor (T k).2.2.1 = some (ty0 k)) (hne : ∀ a, a < N → ∀ b, b < N → a ≠ b → (T a).2.1 ≠ (T b).2.1) (j : Nat) (hj : j < N) (hl : Cond.fieldLink M.1.cls index (T j).1 (T j).2.1 (T j).2.2.1 ∈ gT) (hfin : (T j).2.2.2 = false) (hn : ∀ sg v', gRV sg v v' → narrow (ty0 j) v' = v') (hfit : ∀ sg v', gRV sg v v' → fits (ty0 j) v' = true) (hlen : j < fs.length) (hd : decode M.2.1 pc = .ok (.putfield index, 3)) (k : GW X M (pc + 3) L S (h.set q (.inr (ci, fs.set j v))) kc ks) : GW X M pc L (v :: .ref (q + 1) :: S) h kc ks := by
  obtain ⟨⟨p, l, e, R, s, m, args, below⟩, ⟨meth, c, D, b, A, s0, Z⟩⟩ := X
  obtain ⟨hx, hb, hml, hown, hts, hN, hK, hA⟩ := C
  intro ws H locs ls S' ⟨hP, hD, hS, hRH, hpre, hL, hSt⟩
  obtain ⟨v', S1', rfl, hv, hSt1⟩ := gRS_cons hSt
  obtain ⟨a, S2', ha, rfl, hSt2⟩ := gRS_ref hSt1
  obtain ⟨e', he, fs', rfl, hfs⟩ := gRH_at hRH hq ha
  refine va_put hx hb hts hin ty0 hty hne hown hK hP hD hS q he hc j hj (hts _ hl) (fun _ h9 => h9) hfin (hty j hj) (hn _ _ hv) (hfit _ _ hv) (by rw [gRS_len hfs]; exact hlen) hd (fun H1 locs1 hP1 hD1 hS1 => ?_)
  refine k _ H1 locs1 ls _ ⟨hP1, hD1, hS1, gRH_set hRH he ⟨_, rfl, gRS_set hv hfs j⟩, ?_, ?_, ?_⟩
  · rw [gmap_set he]; exact hpre
  · rw [gmap_set he]; exact hL
  · rw [gmap_set he]; exact hSt2
theorem gw_putF (C : gC X M) {q ci index N : Nat} {Cn : String} {T : u_T} {fs : List Value} {v : Value} (hq : h[q]? = some (.inr (ci, fs))) (hc : gcl[ci]? = some (Cn, T, N)) (hin : ∀ w ∈ u_ws Cn T N, w ∈ gT) (ty0 : Nat → FieldType) (hty : ∀ k, k < N → parseFieldDescriptor (T k).2.2.1 = some (ty0 k)) (hne : ∀ a, a < N → ∀ b, b < N → a ≠ b → (T a).2.1 ≠ (T b).2.1) (j : Nat) (hj : j < N) (hl : Cond.fieldLink M.1.cls index (T j).1 (T j).2.1 (T j).2.2.1 ∈ gT) (hfin : (T j).2.2.2 = true) (hnm : match X with | ((_, _, _, _, _, _, _, _), (meth, _)) => meth.name = "<init>") (hdecl : (T j).1 = M.1.cls) (hn : ∀ sg v', gRV sg v v' → narrow (ty0 j) v' = v') (hfit : ∀ sg v', gRV sg v v' → fits (ty0 j) v' = true) (hlen : j < fs.length) (hd : decode M.2.1 pc = .ok (.putfield index, 3)) (k : GW X M (pc + 3) L S (h.set q (.inr (ci, fs.set j v))) kc ks) : GW X M pc L (v :: .ref (q + 1) :: S) h kc ks := by
  obtain ⟨⟨p, l, e, R, s, m, args, below⟩, ⟨meth, c, D, b, A, s0, Z⟩⟩ := X
  obtain ⟨hx, hb, hml, hown, hts, hN, hK, hA⟩ := C
  intro ws H locs ls S' ⟨hP, hD, hS, hRH, hpre, hL, hSt⟩
  obtain ⟨v', S1', rfl, hv, hSt1⟩ := gRS_cons hSt
  obtain ⟨a, S2', ha, rfl, hSt2⟩ := gRS_ref hSt1
  obtain ⟨e', he, fs', rfl, hfs⟩ := gRH_at hRH hq ha
  refine va_putF hx hb hts hin ty0 hty hne hown hK hP hD hS q he hc j hj (hts _ hl) (fun _ h9 => h9) hfin hnm hdecl (hty j hj) (hn _ _ hv) (hfit _ _ hv) (by rw [gRS_len hfs]; exact hlen) hd (fun H1 locs1 hP1 hD1 hS1 => ?_)
  refine k _ H1 locs1 ls _ ⟨hP1, hD1, hS1, gRH_set hRH he ⟨_, rfl, gRS_set hv hfs j⟩, ?_, ?_, ?_⟩
  · rw [gmap_set he]; exact hpre
  · rw [gmap_set he]; exact hL
  · rw [gmap_set he]; exact hSt2
end GRULES
