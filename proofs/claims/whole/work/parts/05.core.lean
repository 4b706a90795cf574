/-! THE RUN'S CONSTANTS: the launch, the classes' numbers, the fields' slots, the arrays' classes, where the run's own cells begin, where the old cells lie, SIOOBE_FORMATTER, the script's length and numbers -/
abbrev GT : Type := Launch × (Nat → ClassId) × (Nat → Nat → Nat) × (Nat → ClassId) × Nat × (Nat → Nat) × Option Nat × Nat × (Nat → Int32)
def gl (g : GT) : Launch := g.1
def gC (g : GT) : Nat → ClassId := g.2.1
def gF (g : GT) : Nat → Nat → Nat := g.2.2.1
def gA (g : GT) : Nat → ClassId := g.2.2.2.1
def gB (g : GT) : Nat := g.2.2.2.2.1
def gO (g : GT) : Nat → Nat := g.2.2.2.2.2.1
def gV (g : GT) : Option Nat := g.2.2.2.2.2.2.1
def gW (g : GT) : Value := va_rf (gV g)
def gL (g : GT) : Nat := g.2.2.2.2.2.2.2.1
def gX (g : GT) : Nat → Int32 := g.2.2.2.2.2.2.2.2
abbrev AA (g : GT) : Nat → Prop := fun q => gB g ≤ q
def aty : Nat → FieldType := fun k => match k with
  | 20 => .int
  | 21 => .boolean
  | 22 => .byte
  | 23 => .long
  | 24 => .object RX3
  | _ => .object RX1
def tysOf (g : GT) : List (ClassId × FieldType) := [(gA g 20, aty 20), (gA g 21, aty 21), (gA g 22, aty 22), (gA g 23, aty 23), (gA g 24, aty 24), (gA g 25, aty 25)]
theorem tys_at (g : GT) {k : Nat} (h1 : 20 ≤ k) (h2 : k < 26) : (tysOf g)[k - 20]? = some (gA g k, aty k) := by
  have h : k = 20 ∨ k = 21 ∨ k = 22 ∨ k = 23 ∨ k = 24 ∨ k = 25 := by omega
  rcases h with rfl | rfl | rfl | rfl | rfl | rfl <;> rfl
/-- what a field holds, by its type -/
def fval (h : PH) (ad : Nat → Nat) (a : Nat) (t : FieldType) (j : Nat) : Value := match t with
  | .long => .long (hJ h a j)
  | .boolean => .int (bI (hZ h a j))
  | .object _ => va_rf ((hR h a j).map ad)
  | .array _ => va_rf ((hR h a j).map ad)
  | .float => .float 0
  | .double => .double 0
  | _ => .int (hI h a j)
/-- what an array's places hold, by its kind -/
def acont (h : PH) (ad : Nat → Nat) (kd a : Nat) : Nat → Value := fun j => match kd with
  | 20 => .int (hI h a j)
  | 21 => .int (bI (hZ h a j))
  | 22 => .int (hI h a j)
  | 23 => .long (hJ h a j)
  | _ => va_rf ((hR h a j).map ad)
def CellR (g : GT) (ad : Nat → Nat) (h : PH) (H : Heap) (a : Nat) : Prop :=
  (∀ (ci : Nat) (r : vw_C), (hK h a).1 = ci → vwCl[ci]? = some r → t_OB (ad a) (gC g ci) r.2.2 (gF g ci) H (fun j => fval h ad a (tyTab ci j) j)) ∧
  (∀ kd, 20 ≤ kd → kd < 26 → (hK h a).1 = kd → H[ad a]? = some (arrV (gA g kd) (hK h a).2 (acont h ad kd a)))
def sWords : List Int32 := [104, 111, 117, 115, 101, 32, 98, 111, 119, 108, 32, 97, 112, 112, 108, 101, 115, 32, 119, 111, 114, 116, 104, 115, 32, 108, 101, 102, 116, 32, 119, 105, 116, 104, 111, 117, 116, 32, 101, 103, 103, 115, 32, 119, 111, 114, 100, 32, 100, 97, 114, 107, 32, 114, 97, 105, 110, 32, 116, 119, 105, 99, 101, 32, 99, 97, 108, 108, 115, 32, 104, 97, 98, 105, 116, 32, 119, 111, 114, 116, 104, 32, 102, 114, 111, 109, 32, 116, 111, 32, 99, 111, 109, 101, 32, 103, 105, 118, 101, 32, 113, 117, 97, 114, 116, 101, 114, 32, 111, 102, 102, 32, 110, 111, 116, 32, 97, 110, 100, 32, 111, 114, 32, 116, 111, 102, 102, 101, 101, 115, 32, 114, 101, 115, 101, 114, 118, 101, 32, 116, 105, 109, 101, 32, 114, 101, 115, 116, 32, 104, 101, 114, 101, 32]
def sSigns : List Int32 := [40, 41, 60, 61, 43, 45, 42, 59]
def tWords : String := "house bowl apples worths left without eggs word dark rain twice calls habit worth from to come give quarter off not and or toffees reserve time rest here "
def tSigns : String := "()<=+-*;"
def sByt : List (List Int32) := [sWords, sSigns]
def sLen : List Nat := [154, 8]
/-- the old cells as the pure heap has them: 0 the script; 1, 3 two texts; 2, 4 their bytes -/
def OldK (g : GT) (h : PH) : Prop :=
  hK h 0 = (26, gL g) ∧ (∀ j, hI h 0 j = gX g j) ∧
  hK h 1 = (28, 0) ∧ hR h 1 0 = some 2 ∧ hI h 1 1 = 0 ∧ hK h 2 = (27, 154) ∧ (∀ j, hI h 2 j = sWords.getD j 0) ∧
  hK h 3 = (28, 0) ∧ hR h 3 0 = some 4 ∧ hI h 3 1 = 0 ∧ hK h 4 = (27, 8) ∧ (∀ j, hI h 4 j = sSigns.getD j 0) ∧ hK h 5 = (30, 0)
def kok (k : Nat) : Prop := k < 26 ∨ k = 30
def Rep (g : GT) (ad : Nat → Nat) (h : PH) (H : Heap) : Prop :=
  (∀ a, 6 ≤ a → a < hN h → gB g ≤ ad a ∧ ad a < H.size ∧ kok (hK h a).1 ∧ CellR g ad h H a) ∧
  (∀ a b, 6 ≤ a → a < hN h → 6 ≤ b → b < hN h → ad a = ad b → a = b) ∧
  (∀ a, a < 6 → ad a = gO g a) ∧ 6 ≤ hN h ∧ (∀ a j r, hR h a j = some r → r < hN h) ∧ OldK g h
/-- the words of a throw that the tables alone decide -/
def XWs : List Cond := [.castable "java/util/NoSuchElementException" "java/util/NoSuchElementException", .declares ⟨"java/lang/RuntimeException", "<init>", "()V"⟩, .declares ⟨"java/lang/Exception", "<init>", "()V"⟩, .declares ⟨"java/lang/Throwable", "<init>", "()V"⟩]
theorem XWs_warm {s U : State} (hW : s.WarmedH U.vm) (h : ∀ w ∈ XWs, va_Nw w s) : ∀ w ∈ XWs, va_Nw w U := by
  intro w hw
  have h0 := h w hw
  unfold XWs at hw
  rcases List.mem_cons.mp hw with rfl | hw
  · exact va_Nw.warmC hW h0
  rcases List.mem_cons.mp hw with rfl | hw
  · exact va_Nw.warmD hW h0
  rcases List.mem_cons.mp hw with rfl | hw
  · exact va_Nw.warmD hW h0
  rcases List.mem_cons.mp hw with rfl | hw
  · exact va_Nw.warmD hW h0
  · cases hw
/-- the old cells on the real machine -/
def Old (g : GT) (U : State) (H : Heap) : Prop :=
  va_X (gO g 0) (gL g) (gX g) U H ∧ (gO g 0 < gB g ∧ okv 6 (gW g) ∧ gB g ≤ H.size) ∧
  vk_S 2 sLen sByt (fun i => gO g (1 + 2 * i)) (fun i => gO g (2 + 2 * i)) (AA g) U H ∧
  vk_R RX8 45 tWords (gO g 1) U ∧ vk_R RX8 85 tSigns (gO g 3) U ∧
  va_Z "java/lang/String" "COMPACT_STRINGS" "Z" (.int 1) (AA g) U H ∧
  va_Z "jdk/internal/util/Preconditions" "SIOOBE_FORMATTER" "Ljava/util/function/BiFunction;" (sv (gO g) (gW g)) (AA g) U H ∧
  vx_Zq Bundle.tN "UNASSIGNED_STACK" Bundle.steD (AA g) U H ∧ vx_Zq Bundle.tN "SUPPRESSED_SENTINEL" Bundle.listD (AA g) U H ∧ (∀ w ∈ XWs, va_Nw w U) ∧ va_AO RX3 U ∧ va_AO RX1 U
theorem Old.warm {g : GT} {s U : State} {H : Heap} (hW : s.WarmedH U.vm) (h : Old g s H) : Old g U H := by
  obtain ⟨h1, h2, h3, h4, h5, h6, h7, h8, h9, h10⟩ := h
  have hv := hW.alike
  exact ⟨h1.moved hv, h2, h3.moved hv, h4.warm hW, h5.warm hW, h6.moved hv, h7.moved hv, h8.moved hv, h9.moved hv, XWs_warm hW h10.1, va_AO.moved hv h10.2.1, va_AO.moved hv h10.2.2⟩
theorem Old.kept {g : GT} {U : State} {H H1 : Heap} (h : Old g U H) (hz : H.size ≤ H1.size) (hq : ∀ a : Nat, a < H.size → ¬ AA g a → H1[a]? = H[a]?) : Old g U H1 := by
  obtain ⟨h1, h2, h3, h4, h5, h6, h7, h8, h9, h10⟩ := h
  exact ⟨h1.kept (hq _ (Nat.lt_of_lt_of_le h2.1 h2.2.2) (Nat.not_le.mpr h2.1)), ⟨h2.1, h2.2.1, Nat.le_trans h2.2.2 hz⟩, h3.kept hq, h4, h5, h6.kept hq, h7.kept hq, h8.kept hq, h9.kept hq, h10⟩
theorem Old.at {g : GT} {s : State} {H : Heap} {locs : List Loc} (h : Old g s s.heap) (hS : va_S (AA g) s.heap H locs) : Old g s H := h.kept hS.1 hS.2.1
/-! METHODS: name, bytes, locals, answer's type, the instructions by their places -/
abbrev PM : Type := MethodName × ByteArray × Nat × Option FieldType × List (Nat × Instr × Nat)
def mY (M : PM) : MethodName := M.1
def mB (M : PM) : ByteArray := M.2.1
def mL (M : PM) : Nat := M.2.2.1
def mR (M : PM) : Option FieldType := M.2.2.2.1
def mC (M : PM) : List (Nat × Instr × Nat) := M.2.2.2.2
def cdL : List (Nat × Instr × Nat) → Nat → Option (Instr × Nat)
  | [], _ => none
  | q :: l, pc => match Nat.beq q.1 pc with
    | true => some q.2
    | false => cdL l pc
def cd (M : PM) (pc : Nat) : Option (Instr × Nat) := cdL (mC M) pc
theorem cdL_mem : ∀ {l : List (Nat × Instr × Nat)} {pc : Nat} {i : Instr × Nat}, cdL l pc = some i → (pc, i) ∈ l
  | [], _, _, h => by cases h
  | q :: l, pc, i, h => by
    rw [cdL] at h
    split at h
    · next e => cases h; have := Nat.eq_of_beq_eq_true e; subst this; exact List.mem_cons_self
    · exact List.mem_cons_of_mem _ (cdL_mem h)
def CodeOK (M : PM) : Prop := ∀ q ∈ mC M, decode (mB M) q.1 = .ok q.2
theorem CodeOK.dec {M : PM} (h : CodeOK M) {pc : Nat} {i : Instr × Nat} (hd : cd M pc = some i) : decode (mB M) pc = .ok i := by
  have h1 := h (pc, i) (cdL_mem hd)
  exact h1
/-- the law's wrappers: what each catches -/
def wTab (n : String) : Option (Nat × Nat × Nat × Nat) := if n = "law" then none else if n = "value" then some (0, 14, 17, 13) else if n = "talk" ∨ n = "tonight" then some (0, 8, 11, 13) else some (0, 9, 12, 13)
def hTab (M : PM) : Option (Nat × Nat × Nat × Nat) := if (mY M).cls = RL then wTab (mY M).name else none
def CodeC (M : PM) (c : Code) : Prop := CodeOK M ∧ ∀ q, hTab M = some q → c.exceptionTable.toList = tableOf [q]
theorem CodeC.dec {M : PM} {c : Code} (h : CodeC M c) {pc : Nat} {i : Instr × Nat} (hd : cd M pc = some i) : decode (mB M) pc = .ok i := h.1.dec hd
def wsM (M : PM) : List Cond := Cond.code (mY M) (mB M) (mL M) (mR M) :: GW
/-- what a method's body may lean on -/
def Cx (g : GT) (M : PM) (p : Program) (s : State) (m : MethodId) (args : Array Value) (meth : Method) (c : Code) : Prop :=
  p.tables.exec = Jvm.exec ∧ c.code = mB M ∧ CodeC M c ∧ meth.sig.returnType = mR M ∧ meth.locks = false ∧ c.maxLocals = mL M ∧ s.vm.findClass (mY M).cls = some m.cls ∧ meth.name = (mY M).name ∧
  (∀ w ∈ GW, w.before args s = true) ∧ (∀ w ∈ NWs, va_Nw w s) ∧ va_K (gC g, gF g) vwCl (tysOf g) s ∧ Old g s s.heap
/-- how many cells there were at a method's start, and where they lay -/
abbrev NA : Type := Nat × (Nat → Nat) × Nat
/-- where a walk stands -/
def St (g : GT) (M : PM) (n0 : NA) (s0 : Nat) (h : PH) (ls : List (Nat × Value)) (st : List Value) (ad : Nat → Nat) (s : State) (H : Heap) (lsA : Array Slot) (locs : List Loc) (cells slots : Nat) : Prop :=
  Rep g ad h H ∧ okL (hN h) st ∧ okP (hN h) ls ∧ lv_has lsA (mL M) (sP ad ls) ∧ va_S (AA g) s.heap H locs ∧ (n0.1 ≤ hN h ∧ ∀ k, k < n0.1 → ad k = n0.2.1 k) ∧ (s0 ≤ hS h ∧ n0.2.2 ≤ hE h) ∧ cells = (hN h - n0.1) + (hE h - n0.2.2) ∧ slots = hS h - s0
/-- an answer: none is thrown -/
abbrev Res : Type := Option (Option Value)
def RetI (M : PM) (i : Instr) (st : List Value) (r : Res) : Prop :=
  (i = .ireturn ∧ ∃ (x : Int32) (ty : FieldType), st = [.int x] ∧ r = some (some (.int x)) ∧ mR M = some ty ∧ narrow ty (.int x) = .int x) ∨
  (i = .lreturn ∧ ∃ x : Int64, st = [.long x] ∧ r = some (some (.long x)) ∧ mR M = some .long) ∨
  (i = .areturn ∧ ∃ (t : Option Nat) (rt : FieldType), st = [va_rf t] ∧ r = some (some (va_rf t)) ∧ mR M = some rt ∧ ((∃ n, rt = .object n) ∨ ∃ t, rt = .array t)) ∨
  (i = .return_ ∧ st = [] ∧ r = some none ∧ mR M = none)
def ThrI (M : PM) (pc : Nat) : Prop := ∃ ik ic, decode (mB M) pc = .ok (.new ik, 3) ∧ decode (mB M) (pc + 3) = .ok (.dup, 1) ∧ decode (mB M) (pc + 4) = .ok (.invokespecial ic, 3) ∧ decode (mB M) (pc + 7) = .ok (.athrow, 1) ∧ ik = 156 ∧ ic = 158
/-- what the end of the method is worth -/
def RetOK (g : GT) (M : PM) (p : Program) (e : Env) (R : Room) (s : State) (m : MethodId) (args : Array Value) (below : List Frame) (meth : Method) (c : Code) (QQ : State → Prop) (n0 : NA) (s0 : Nat) (r : Res) (h' : PH) : Prop :=
  (∀ (pc : Nat) (i : Instr) (st : List Value) (ad : Nat → Nat) (H : Heap) (lsA : Array Slot) (locs : List Loc) (cells slots : Nat), decode (mB M) pc = .ok (i, 1) → RetI M i st r → St g M n0 s0 h' [] st ad s H lsA locs cells slots →
    W p (gl g) e R s m args below meth c H locs cells slots QQ (F0 m pc lsA (sL ad st))) ∧
  (r = none → ∀ (pc : Nat) (ad : Nat → Nat) (h : PH) (H : Heap) (lsA : Array Slot) (locs : List Loc) (cells slots : Nat), ThrI M pc → h' = tw h → St g M n0 s0 h [] [] ad s H lsA locs cells slots →
    W p (gl g) e R s m args below meth c H locs cells slots QQ (F0 m pc lsA []))
/-- FROM HERE THE METHOD COMES TO ITS END with this answer and this heap -/
def Run (g : GT) (M : PM) (d pc : Nat) (ls : List (Nat × Value)) (st : List Value) (h : PH) (r : Res) (h' : PH) : Prop :=
  hLe h h' ∧ ∀ (p : Program) (e : Env) (R : Room) (s : State) (m : MethodId) (args : Array Value) (below : List Frame) (meth : Method) (c : Code) (QQ : State → Prop) (n0 : NA) (s0 : Nat),
    Cx g M p s m args meth c → (d ≤ R.frames ∧ 64 * d ≤ R.locals ∧ (hN h' - n0.1) + (hE h' - n0.2.2) ≤ R.cells ∧ hS h' - s0 ≤ R.slots) → RetOK g M p e R s m args below meth c QQ n0 s0 r h' →
    ∀ (ad : Nat → Nat) (H : Heap) (lsA : Array Slot) (locs : List Loc) (cells slots : Nat), St g M n0 s0 h ls st ad s H lsA locs cells slots →
      W p (gl g) e R s m args below meth c H locs cells slots QQ (F0 m pc lsA (sL ad st))
