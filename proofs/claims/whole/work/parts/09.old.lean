section OR
variable {g : GT} {M : PM} {d pc : Nat} {ls : List (Nat × Value)} {rest : List Value} {h : PH} {r : Res} {h' : PH}
theorem Rep.old {ad : Nat → Nat} {H : Heap} (R : Rep g ad h H) {a k : Nat} (ha : a < hN h) (hk : (hK h a).1 = k) (h1 : 26 ≤ k) (h2 : k < 30) : k = 26 ∧ a = 0 ∨ k = 27 ∧ (a = 2 ∨ a = 4) ∨ k = 28 ∧ (a = 1 ∨ a = 3) := by
  have h6 : a < 6 := by
    rcases Nat.lt_or_ge a 6 with q | q
    · exact q
    · have := (R.1 a q ha).2.2.1
      rw [hk] at this
      rcases this with z | z <;> omega
  obtain ⟨o0, -, o1, -, -, o2, -, o3, -, -, o4, -, o5⟩ := R.2.2.2.2.2
  have hz : a = 0 ∨ a = 1 ∨ a = 2 ∨ a = 3 ∨ a = 4 ∨ a = 5 := by omega
  rcases hz with rfl | rfl | rfl | rfl | rfl | rfl
  · rw [o0] at hk; simp only at hk; omega
  · rw [o1] at hk; simp only at hk; omega
  · rw [o2] at hk; simp only at hk; omega
  · rw [o3] at hk; simp only at hk; omega
  · rw [o4] at hk; simp only at hk; omega
  · rw [o5] at hk; simp only at hk; omega
theorem AA_lt {s : State} (O : Old g s s.heap) : gO g 0 < s.heap.size := Nat.lt_of_lt_of_le O.2.1.1 O.2.1.2.2
/-- the script's numbers -/
theorem r_sld {a : Nat} {t : Option Nat} {i : Int32} (hd : cd M pc = some (.iaload, 1)) (ht : t = some a) (hk : (hK h a).1 = 26) (hi : inb i (hK h a).2 = true) (kk : Run g M d (pc + 1) ls (.int (hI h a (ix i)) :: rest) h r h') : Run g M d pc ls (.int i :: va_rf t :: rest) h r h' := by
  subst ht
  refine ⟨kk.1, ?_⟩
  intro p e R s m args below meth c QQ n0 s0 C hR' RO ad H lsA locs cells slots S
  have ha : a = 0 := by rcases S.1.old S.2.1.2.1 hk (by omega) (by omega) with z | z | z <;> omega
  subst ha
  have k3 := kk.2 p e R s m args below meth c QQ n0 s0 C hR' RO ad H lsA locs cells slots ⟨S.1, ⟨trivial, S.2.1.2.2⟩, S.2.2⟩
  have O := C.2.2.2.2.2.2.2.2.2.2.2
  have e0 : ad 0 = gO g 0 := S.1.2.2.1 0 (by omega)
  have k0 := S.1.2.2.2.2.2.1
  have e1 := S.1.2.2.2.2.2.2.1 (ix i)
  show W p (gl g) e R s m args below meth c H locs cells slots QQ (F0 m pc lsA (.int i :: .ref (ad 0) :: sL ad rest))
  rw [e0]
  rw [k0] at hi
  refine va_sld C.1 C.2.1 O.1 (AA_lt O) (Nat.not_le.mpr O.2.1.1) S.2.2.2.2.1 (inb_in hi) (C.2.2.1.dec hd) ?_
  rw [e1] at k3
  exact k3
theorem r_slen {a : Nat} {t : Option Nat} (hd : cd M pc = some (.arraylength, 1)) (ht : t = some a) (hk : (hK h a).1 = 26) (kk : Run g M d (pc + 1) ls (.int (Int32.ofNat (hK h a).2) :: rest) h r h') : Run g M d pc ls (va_rf t :: rest) h r h' := by
  subst ht
  refine ⟨kk.1, ?_⟩
  intro p e R s m args below meth c QQ n0 s0 C hR' RO ad H lsA locs cells slots S
  have ha : a = 0 := by rcases S.1.old S.2.1.1 hk (by omega) (by omega) with z | z | z <;> omega
  subst ha
  have k3 := kk.2 p e R s m args below meth c QQ n0 s0 C hR' RO ad H lsA locs cells slots ⟨S.1, ⟨trivial, S.2.1.2⟩, S.2.2⟩
  have O := C.2.2.2.2.2.2.2.2.2.2.2
  have e0 : ad 0 = gO g 0 := S.1.2.2.1 0 (by omega)
  have k0 := S.1.2.2.2.2.2.1
  show W p (gl g) e R s m args below meth c H locs cells slots QQ (F0 m pc lsA (.ref (ad 0) :: sL ad rest))
  rw [e0]
  refine va_slen C.1 C.2.1 O.1 (AA_lt O) (Nat.not_le.mpr O.2.1.1) S.2.2.2.2.1 (C.2.2.1.dec hd) ?_
  rw [k0] at k3
  exact k3
theorem r_ldcS {idx k : Nat} (hd : cd M pc = some (.ldc idx, 2)) (hM : (mY M).cls = RX8) (hk : idx = 45 ∧ k = 1 ∨ idx = 85 ∧ k = 3) (kk : Run g M d (pc + 2) ls (va_rf (some k) :: rest) h r h') : Run g M d pc ls rest h r h' := by
  refine ⟨kk.1, ?_⟩
  intro p e R s m args below meth c QQ n0 s0 C hR' RO ad H lsA locs cells slots S
  have O := C.2.2.2.2.2.2.2.2.2.2.2
  have h6 := S.1.2.2.2.1
  have hkl : k < hN h := by omega
  have k3 := kk.2 p e R s m args below meth c QQ n0 s0 C hR' RO ad H lsA locs cells slots ⟨S.1, ⟨hkl, S.2.1⟩, S.2.2⟩
  have e0 : ad k = gO g k := S.1.2.2.1 k (by omega)
  have hown := C.2.2.2.2.2.2.1
  rw [hM] at hown
  have k4 : W p (gl g) e R s m args below meth c H locs cells slots QQ (F0 m (pc + 2) lsA (.ref (gO g k) :: sL ad rest)) := by rw [← e0]; exact k3
  rcases hk with ⟨rfl, rfl⟩ | ⟨rfl, rfl⟩
  · exact va_ldcS C.1 C.2.1 hown O.2.2.2.1 (C.2.2.1.dec hd) k4
  · exact va_ldcS C.1 C.2.1 hown O.2.2.2.2.1 (C.2.2.1.dec hd) k4
/-- a text's own fields and bytes -/
theorem old_str {n0 : NA} {s0 : Nat} {st : List Value} {p : Program} {s : State} {m : MethodId} {aa : Array Value} {meth : Method} {c : Code} {ad : Nat → Nat} {H : Heap} {lsA : Array Slot} {locs : List Loc} {cells slots : Nat} (C : Cx g M p s m aa meth c) (S : St g M n0 s0 h ls st ad s H lsA locs cells slots) {a : Nat} (ha : a < hN h) (hk : (hK h a).1 = 28) :
    va_OF "java/lang/String" "coder" "B" (.int (hI h a 1)) (ad a) (AA g) s s.heap ∧ va_OF "java/lang/String" "value" "[B" (sv ad (va_rf (hR h a 0))) (ad a) (AA g) s s.heap := by
  have hz : a = 1 ∨ a = 3 := by rcases S.1.old ha hk (by omega) (by omega) with z | z | z <;> omega
  have O := C.2.2.2.2.2.2.2.2.2.2.2.2.2.1.1
  obtain ⟨-, -, -, o1, o1', -, -, -, o3, o3', -⟩ := S.1.2.2.2.2.2
  have e := S.1.2.2.1
  rcases hz with rfl | rfl
  · have O0 := O 0 (by omega)
    rw [o1, o1', e 1 (by omega)]
    have e2 : ad 2 = gO g 2 := e 2 (by omega)
    exact ⟨O0.2.1, by show va_OF _ _ _ (.ref (ad 2)) _ _ _ _; rw [e2]; exact O0.2.2.1⟩
  · have O0 := O 1 (by omega)
    rw [o3, o3', e 3 (by omega)]
    have e2 : ad 4 = gO g 4 := e 4 (by omega)
    exact ⟨O0.2.1, by show va_OF _ _ _ (.ref (ad 4)) _ _ _ _; rw [e2]; exact O0.2.2.1⟩
theorem r_strI {idx a : Nat} {t : Option Nat} (hd : cd M pc = some (.getfield idx, 3)) (hl : Cond.fieldLink (mY M).cls idx "java/lang/String" "coder" "B" ∈ GW) (ht : t = some a) (hk : (hK h a).1 = 28) (kk : Run g M d (pc + 3) ls (.int (hI h a 1) :: rest) h r h') : Run g M d pc ls (va_rf t :: rest) h r h' := by
  subst ht
  refine ⟨kk.1, ?_⟩
  intro p e R s m args below meth c QQ n0 s0 C hR' RO ad H lsA locs cells slots S
  exact vk_getf C.1 C.2.1 (old_str C S S.2.1.1 hk).1 S.2.2.2.2.1 C.2.2.2.2.2.2.1 (C.2.2.2.2.2.2.2.2.1 _ hl) (fun _ h => h) (C.2.2.1.dec hd) (kk.2 p e R s m args below meth c QQ n0 s0 C hR' RO ad H lsA locs cells slots ⟨S.1, ⟨trivial, S.2.1.2⟩, S.2.2⟩)
theorem r_strR {idx a : Nat} {t : Option Nat} (hd : cd M pc = some (.getfield idx, 3)) (hl : Cond.fieldLink (mY M).cls idx "java/lang/String" "value" "[B" ∈ GW) (ht : t = some a) (hk : (hK h a).1 = 28) (kk : Run g M d (pc + 3) ls (va_rf (hR h a 0) :: rest) h r h') : Run g M d pc ls (va_rf t :: rest) h r h' := by
  subst ht
  refine ⟨kk.1, ?_⟩
  intro p e R s m args below meth c QQ n0 s0 C hR' RO ad H lsA locs cells slots S
  exact vk_getf C.1 C.2.1 (old_str C S S.2.1.1 hk).2 S.2.2.2.2.1 C.2.2.2.2.2.2.1 (C.2.2.2.2.2.2.2.2.1 _ hl) (fun _ h => h) (C.2.2.1.dec hd) (kk.2 p e R s m args below meth c QQ n0 s0 C hR' RO ad H lsA locs cells slots ⟨S.1, ⟨okv_rf fun q hq => S.1.2.2.2.2.1 a 0 q hq, S.2.1.2⟩, S.2.2⟩)
theorem old_bytes {n0 : NA} {s0 : Nat} {st : List Value} {p : Program} {s : State} {m : MethodId} {aa : Array Value} {meth : Method} {c : Code} {ad : Nat → Nat} {H : Heap} {lsA : Array Slot} {locs : List Loc} {cells slots : Nat} (C : Cx g M p s m aa meth c) (S : St g M n0 s0 h ls st ad s H lsA locs cells slots) {a : Nat} (ha : a < hN h) (hk : (hK h a).1 = 27) :
    va_T .byte (ad a) (hK h a).2 (fun j => .int (hI h a j)) (AA g) s H := by
  have hz : a = 2 ∨ a = 4 := by rcases S.1.old ha hk (by omega) (by omega) with z | z | z <;> omega
  have O := (C.2.2.2.2.2.2.2.2.2.2.2.at S.2.2.2.2.1).2.2.1.1
  obtain ⟨-, -, -, -, -, o2, o2', -, -, -, o4, o4', -⟩ := S.1.2.2.2.2.2
  have e := S.1.2.2.1
  rcases hz with rfl | rfl
  · have O0 := (O 0 (by omega)).2.2.2
    rw [o2, e 2 (by omega), show (fun j => Value.int (hI h 2 j)) = fun j => Value.int (sWords.getD j 0) from funext fun j => by rw [o2' j]]
    exact O0
  · have O0 := (O 1 (by omega)).2.2.2
    rw [o4, e 4 (by omega), show (fun j => Value.int (hI h 4 j)) = fun j => Value.int (sSigns.getD j 0) from funext fun j => by rw [o4' j]]
    exact O0
theorem r_bald7 {a : Nat} {t : Option Nat} {i : Int32} (hd : cd M pc = some (.baload, 1)) (ht : t = some a) (hk : (hK h a).1 = 27) (hi : inb i (hK h a).2 = true) (kk : Run g M d (pc + 1) ls (.int (hI h a (ix i)) :: rest) h r h') : Run g M d pc ls (.int i :: va_rf t :: rest) h r h' := by
  subst ht
  refine ⟨kk.1, ?_⟩
  intro p e R s m args below meth c QQ n0 s0 C hR' RO ad H lsA locs cells slots S
  obtain ⟨cell, q1, q2, q3, q4, q5, q6, -⟩ := old_bytes C S S.2.1.2.1 hk
  have hlt := inb_lt hi
  exact W.bald C.1 C.2.1 q1 q2 q3 (fun z => z.elim (inb_ge hi) fun z => absurd (Nat.le_trans q4 z) (Nat.not_le.mpr hlt)) (q6 _ hlt) rfl rfl (C.2.2.1.dec hd) (kk.2 p e R s m args below meth c QQ n0 s0 C hR' RO ad H lsA locs cells slots ⟨S.1, ⟨trivial, S.2.1.2.2⟩, S.2.2⟩)
theorem r_alen7 {a : Nat} {t : Option Nat} (hd : cd M pc = some (.arraylength, 1)) (ht : t = some a) (hk : (hK h a).1 = 27) (kk : Run g M d (pc + 1) ls (.int (Int32.ofNat (hK h a).2) :: rest) h r h') : Run g M d pc ls (va_rf t :: rest) h r h' := by
  subst ht
  refine ⟨kk.1, ?_⟩
  intro p e R s m args below meth c QQ n0 s0 C hR' RO ad H lsA locs cells slots S
  obtain ⟨cell, q1, q2, q3, q4, q5, q6, -⟩ := old_bytes C S S.2.1.1 hk
  exact W.alen (n := Int32.ofNat (hK h a).2) C.1 C.2.1 q1 q2 q5 rfl rfl (C.2.2.1.dec hd) (kk.2 p e R s m args below meth c QQ n0 s0 C hR' RO ad H lsA locs cells slots ⟨S.1, ⟨trivial, S.2.1.2⟩, S.2.2⟩)
theorem r_gstB {idx : Nat} (hd : cd M pc = some (.getstatic idx, 3)) (hl : Cond.fieldLink (mY M).cls idx "java/lang/String" "COMPACT_STRINGS" "Z" ∈ GW) (kk : Run g M d (pc + 3) ls (.int 1 :: rest) h r h') : Run g M d pc ls rest h r h' := by
  refine ⟨kk.1, ?_⟩
  intro p e R s m args below meth c QQ n0 s0 C hR' RO ad H lsA locs cells slots S
  exact va_gets C.1 C.2.1 C.2.2.2.2.2.2.2.2.2.2.2.2.2.2.2.2.1 S.2.2.2.2.1 C.2.2.2.2.2.2.1 (C.2.2.2.2.2.2.2.2.1 _ hl) (fun _ h => h) (C.2.2.1.dec hd) (kk.2 p e R s m args below meth c QQ n0 s0 C hR' RO ad H lsA locs cells slots ⟨S.1, ⟨trivial, S.2.1⟩, S.2.2⟩)
theorem r_gstO {idx : Nat} (hd : cd M pc = some (.getstatic idx, 3)) (hl : Cond.fieldLink (mY M).cls idx "jdk/internal/util/Preconditions" "SIOOBE_FORMATTER" "Ljava/util/function/BiFunction;" ∈ GW) (kk : Run g M d (pc + 3) ls (va_rf (gV g) :: rest) h r h') : Run g M d pc ls rest h r h' := by
  refine ⟨kk.1, ?_⟩
  intro p e R s m args below meth c QQ n0 s0 C hR' RO ad H lsA locs cells slots S
  have O := C.2.2.2.2.2.2.2.2.2.2.2
  have hok : okv 6 (gW g) := O.2.1.2.1
  have k3 := kk.2 p e R s m args below meth c QQ n0 s0 C hR' RO ad H lsA locs cells slots ⟨S.1, ⟨okv_mono S.1.2.2.2.1 hok, S.2.1⟩, S.2.2⟩
  have e9 : sv ad (va_rf (gV g)) = sv (gO g) (gW g) := sv_ext S.1.2.2.1 hok
  rw [sL, e9] at k3
  exact va_gets C.1 C.2.1 O.2.2.2.2.2.2.1 S.2.2.2.2.1 C.2.2.2.2.2.2.1 (C.2.2.2.2.2.2.2.2.1 _ hl) (fun _ h => h) (C.2.2.1.dec hd) k3
/-! WHAT MAY THROW: NoSuchElementException, of the class's own methods, caught by the law's -/
def XN : String := "java/util/NoSuchElementException"
def postX (g : GT) (ad : Nat → Nat) (h : PH) (r : Res) (h' : PH) : Array Value → State → Outcome → State → Prop := fun a st o t => ∃ v, r = some v ∧ postC' g ad h v h' a st o t
def excX (g : GT) (ad : Nat → Nat) (h : PH) (r : Res) (h' : PH) : String → State → State → Prop := fun E st t => r = none ∧ E = XN ∧ ∃ ad' : Nat → Nat, (∀ k, k < hN h → ad' k = ad k) ∧ Rep g ad' h' t.heap ∧ va_F (AA g) st t
def XCalls (g : GT) (d : Nat) (M : PM) (args : List Value) (h : PH) (r : Res) (h' : PH) : Prop :=
  hLe h h' ∧ ∀ ad : Nat → Nat, okL (hN h) args → vx_Met (gl g) (mY M) (wsM M) (rmOf d h h') (preC g ad args h) (postX g ad h r h') (excX g ad h r h') ((hN h' - hN h) + (hE h' - hE h)) (hS h' - hS h) (AA g)
theorem r_throw {st : List Value} (ht : ThrI M pc) : Run g M d pc ls [] h none (tw h) := by
  refine ⟨⟨Nat.le_refl _, Nat.le_add_right _ _, Nat.le_add_right _ _⟩, ?_⟩
  intro p e R s m args below meth c QQ n0 s0 C hR' RO ad H lsA locs cells slots S
  exact RO.2 rfl pc ad h H lsA locs cells slots ht rfl ⟨S.1, trivial, trivial, ⟨S.2.2.2.1.1, S.2.2.2.1.2.1, fun q hq => by cases hq⟩, S.2.2.2.2⟩
theorem Rep.tw {ad : Nat → Nat} {H : Heap} (R : Rep g ad h H) : Rep g ad (tw h) H := R
theorem Rep.grow {ad : Nat → Nat} {H H1 : Heap} (R : Rep g ad h H) (z : H.size ≤ H1.size) (oq : ∀ q, q < H.size → H1[q]? = H[q]?) : Rep g ad h H1 := by
  refine ⟨fun a b1 b2 => ?_, R.2⟩
  obtain ⟨q1, q2, q3, q4⟩ := R.1 a b1 b2
  exact ⟨q1, Nat.lt_of_lt_of_le q2 z, q3, fun ci rr w1 w2 => (q4.1 ci rr w1 w2).kept (oq _ q2), fun kd k1 k2 k3 => by rw [oq _ q2]; exact q4.2 kd k1 k2 k3⟩
def xNames : List String := ["java/lang/RuntimeException", "java/lang/Exception"]
set_option maxRecDepth 40000 in
theorem xGood : ∀ w ∈ (vx_at0 RX10 158 XN xNames).filter goodWord, w ∈ lw_tbl := by decide +kernel
set_option maxRecDepth 40000 in
theorem xBad : ∀ w ∈ (vx_at0 RX10 158 XN xNames).filter (fun w => !goodWord w), w ∈ XWs := by decide +kernel
set_option maxRecDepth 40000 in
theorem xOt : ∀ w ∈ Cond.classLink RX10 156 XN :: Cond.initialized XN :: vx_at0 RX10 158 XN xNames, vx_ot w = true := by decide +kernel
/-- the words of the throw hold in a method's body -/
theorem xHat {p : Program} {s : State} {m : MethodId} {args : Array Value} {meth : Method} {c : Code} (C : Cx g M p s m args meth c) : ∀ w ∈ vx_at0 RX10 158 XN xNames, w.before args s = true := by
  refine vx_hat (B := XWs) (fun w hw => ?_) xBad (fun w hw => ?_)
  · exact C.2.2.2.2.2.2.2.2.1 w (List.mem_filter.mpr ⟨xGood w hw, (List.mem_filter.mp hw).2⟩)
  · have h0 := C.2.2.2.2.2.2.2.2.2.2.2.2.2.2.2.2.2.2.2.2.1 w hw
    have key : ∀ w ∈ XWs, w.onTables = true := by decide +kernel
    exact va_Nw.use (key w hw) h0
/-- the method's walk from its entry gives its contract -/
theorem XCalls.of {M2 : PM} {d : Nat} {as : List Value} {r2 : Res} {h1 : PH} (hl : (gl g).stackTraces = false) (hcode : CodeOK M2) (hT : hTab M2 = none) (hcls : (mY M2).cls = RX10) (hplain : plainName (mY M2).cls = true) (hsz : ∀ ad : Nat → Nat, (lg_sl (sL ad as)).length ≤ mL M2) (hd : 7 ≤ d) (hw1 : Cond.classLink RX10 156 XN ∈ GW) (hw2 : Cond.initialized XN ∈ GW)
    (k : Run g M2 d 0 (lv_args 0 as) [] h r2 h1) : XCalls g d M2 as h r2 h1 := by
  refine ⟨k.1, fun ad hok => ?_⟩
  refine vx_ofW (cc := mB M2) (maxL := mL M2) (ret := mR M2) hplain rfl ?_
  intro p e s m args below meth c s₁ B hml hex hv
  obtain ⟨rfl, ⟨hNw, hK', hOld⟩, hRep⟩ := hv
  have hx := B.exec
  have hb := B.bytes
  have hr := B.returns
  have hlk := B.notSynchronized
  have hts : ∀ w ∈ wsM M2, w.before _ s = true := atoms_spec (ws := wsM M2) B.pre
  have hown : s.vm.findClass (mY M2).cls = some m.cls := findClass_of_methodNamed B.named
  have C : Cx g M2 p s m (sL ad as).toArray meth c := ⟨hx, hb, ⟨hcode, fun q hq => by rw [hT] at hq; cases hq⟩, hr, hlk, hml, hown, (name_of_methodNamed B.named B.method).1, fun w hw => hts w (List.mem_cons_of_mem _ hw), hNw, hK', hOld⟩
  have hl' := lv_entry (sL ad as) (n := mL M2) (hsz ad)
  rw [lg_entry_eq]
  generalize (lg_sl (sL ad as) ++ List.replicate (mL M2 - (lg_sl (sL ad as)).length) Slot.unset).toArray = lsA at hl' ⊢
  refine k.2 p e (headSpec (wsM M2) (rmOf d h h1)).room s m _ below meth c _ (hN h, ad, hE h) (hS h) C ⟨Nat.le_refl _, Nat.le_refl _, Nat.le_refl _, Nat.le_refl _⟩ ⟨?_, ?_⟩ ad s.heap lsA [] 0 0 ⟨hRep, trivial, lv_args_okP 0 hok, by rw [← lv_args_sP]; exact hl', va_S.rf, ⟨Nat.le_refl _, fun _ _ => rfl⟩, ⟨Nat.le_refl _, Nat.le_refl _⟩, by simp, (Nat.sub_self _).symm⟩
  · intro pc i st ad' H lsA' locs cells slots hdg hi S
    obtain ⟨S1, S2, -, -, S5, ⟨S6, S6'⟩, S7, rfl, rfl⟩ := S
    have hq : ∀ (o : Option Value), r2 = some o → okO (hN h1) o → ∀ t : State, t.heap = H → s.WarmedH t.vm → postX g ad h r2 h1 (sL ad as).toArray s (.returned (o.map (sv ad'))) t := by
      rintro o rfl ho t ht hW
      exact ⟨o, rfl, ad', rfl, S6', by rw [ht]; exact S1, ho, S5.F ht⟩
    refine vx_ret ?_
    rcases hi with ⟨rfl, x, ty, rfl, hv, hty, hn⟩ | ⟨rfl, x, rfl, hv, hty⟩ | ⟨rfl, t, rt, rfl, hv, hty, hrt⟩ | ⟨rfl, rfl, hv, hty⟩
    · exact W.zret hx hb (hr.trans hty) hn (hq (some (.int x)) hv trivial) S5.2.2 hdg hlk
    · exact W.lret hx hb (hr.trans hty) (hq (some (.long x)) hv trivial) S5.2.2 hdg hlk
    · have h9 := hq (some (va_rf t)) hv S2.1
      exact W.aret (v := sv ad' (va_rf t)) hx hb (hr.trans hty) hrt (by rw [sv_rf]; cases t with | none => exact Or.inl rfl | some q => exact Or.inr ⟨_, rfl⟩) h9 S5.2.2 hdg hlk
    · exact W.vret hx hb (hr.trans hty) (hq none hv trivial) S5.2.2 hdg hlk
  · rintro rfl pc ad' h0 H lsA' locs cells slots ⟨ik, ic, d0, d3, d4, d7, rfl, rfl⟩ rfl S
    obtain ⟨S1, S2, -, S4, S5, ⟨S6, S6'⟩, ⟨S7, S7'⟩, rfl, rfl⟩ := S
    have S7' : hE h ≤ hE h0 := S7'
    have S6 : hN h ≤ hN h0 := S6
    have S7 : hS h ≤ hS h0 := S7
    have O := C.2.2.2.2.2.2.2.2.2.2.2
    have hGW := C.2.2.2.2.2.2.2.2.1
    rw [hcls] at hown
    refine vx_throw0 (cls := XN) (names := xNames) hx hb hl hown (by decide +kernel) (by decide +kernel) (hGW _ hw1) (hGW _ hw2) (xHat C) xOt O.2.2.2.2.2.2.2.1 O.2.2.2.2.2.2.2.2.1 S5 (S4.1.trans hml.symm) d0 d3 d4 d7 (fun x hx9 => (hex x hx9).elim) ?_ ?_ ?_ ?_ hlk (fun t ht hz hq => ⟨rfl, rfl, ad', S6', (S1.tw.grow hz hq), ?_⟩) S5.2.2 ?_ ?_
    · show 2 + 3 < d; omega
    · show 0 + (13 * (2 + 1) + 42) ≤ 64 * d; omega
    · show (hN h0 - hN h) + (hE h0 - hE h) + 1 ≤ (hN h0 - hN h) + (hE h0 + 1 - hE h); omega
    · show (hS h0 - hS h) + 6 ≤ (hS h0 + 6 - hS h); omega
    · exact ⟨Nat.le_trans S5.1 hz, fun q q1 q2 => by rw [hq q (Nat.lt_of_lt_of_le q1 S5.1)]; exact S5.2.1 q q1 q2⟩
    · show (hN h0 - hN h) + (hE h0 - hE h) + 1 ≤ (hN h0 - hN h) + (hE h0 + 1 - hE h); omega
    · show hS h0 - hS h + 6 ≤ hS h0 + 6 - hS h; omega
/-- a call that may throw, in a method that catches: what is caught is laid aside -/
theorem r_callVX {M2 : PM} {idx n a i len s1' e1' hpc : Nat} {as : List Value} {st : List Value} {r1 : Res} {h1 : PH} (hd : cd M pc = some (.invokevirtual idx, 3)) (hp : PlainM M2 n) (hl : Cond.methodLink (mY M).cls idx (mY M2) ∈ GW) (hi : Cond.instanceMethod (mY M2) ∈ GW) (hs : Cond.selects (mY M2).cls (mY M2) (mY M2) ∈ GW)
    {t : Option Nat} (ht : t = some a) (hst : st = as.reverse ++ va_rf t :: rest) (hn : as.length = n) (hrc : rcls (hK h a).1 = some (mY M2).cls) (hcat : (rest.map fun v => v.category).sum ≤ 8) (hc : XCalls g d M2 (va_rf (some a) :: as) h r1 h1)
    (hT : hTab M = some (s1', e1', hpc, 13)) (hcov : s1' ≤ pc ∧ pc < e1') (hcl : Cond.classLink (mY M).cls 13 XN ∈ GW) (hh : (∃ k : Fin 4, cd M hpc = some (.astore_n k, 1) ∧ (k : Nat) = i ∧ len = 1) ∨ cd M hpc = some (.astore i, 2) ∧ len = 2) (hiL : i < mL M)
    (kk : ∀ v, r1 = some v → Run g M (d + 1) (pc + 3) ls (v.toList ++ rest) h1 r h') (kx : r1 = none → Run g M (d + 1) (hpc + len) (dr1 i ls) [] h1 r h') : Run g M (d + 1) pc ls st h r h' := by
  subst hst
  subst ht
  have hle : hLe h1 h' := by
    cases r1 with
    | none => exact (kx rfl).1
    | some v => exact (kk v rfl).1
  refine ⟨hc.1.tr hle, ?_⟩
  intro p e R s m args below meth c QQ n0 s0 C hR' RO ad H lsA locs cells slots S
  have hts := C.2.2.2.2.2.2.2.2.1
  obtain ⟨p1, p2, p3, p4, p5, p6⟩ := hp
  have S2 := okL_app.mp S.2.1
  have hM := hc.2 ad ⟨S2.2.1, okL_rev.mp S2.1⟩
  obtain ⟨⟨S6, S6'⟩, ⟨S7, S7'⟩, S8, S9⟩ := S.2.2.2.2.2
  obtain ⟨q1, q2, q5⟩ := hc.1
  obtain ⟨q3, q4, q6⟩ := hle
  have hr := vx_runV (l := gl g) (e := e) (below := below) (meth := meth) (H := H) (locs := locs) (cells := cells) (slots := slots) (p := p) (g := F0 m pc lsA (sL ad (as.reverse ++ va_rf (some a) :: rest))) (As := sL ad as) (n := n) (rest := sL ad rest) ⟨C.1, C.2.1, C.2.2.2.2.2.1, C.2.2.2.2.2.2.1, hts⟩ hM (cwV (R := R) n hts (goodIn_cons hl (goodIn_cons hi (goodIn_cons hs (goodIn_cons p6 (goodIn_wsM p5))))) rfl rfl rfl ⟨rfl, p1, p2, p3⟩ ⟨by show d + 1 ≤ R.frames; exact hR'.1, by show 8 + (mL M2 + 11) + 64 * d ≤ R.locals; have := hR'.2.1; omega⟩) ⟨pre_blind, recv_at C S S2.2.1 hrc, pre_at C S⟩ rfl (by rw [sL_len]; exact hn) S.2.2.2.1.1 (by rw [sL_app, sL_rev]; rfl) (lv_room (by rw [sL_cat]; exact hcat)) (C.2.2.1.dec hd) ⟨by have := hR'.2.2.1; omega, by have := hR'.2.2.2; omega⟩
  obtain ⟨S1, -, S3, S4, S5, -⟩ := S
  have hS' : ∀ (ad' : Nat → Nat) (t T' : State) (L : List Loc) (l2 : List (Nat × Value)) (st2 : List Value) (lsB : Array Slot), T'.heap = t.heap → (∀ k, k < hN h → ad' k = ad k) → Rep g ad' h1 t.heap → (∀ q ∈ L, AA g q.base) → H.size ≤ t.heap.size → (∀ q : Nat, q < H.size → ¬ AA g q → t.heap[q]? = H[q]?) → okP (hN h) l2 → okL (hN h1) st2 → lv_has lsB (mL M) (sP ad l2) → St g M n0 s0 h1 l2 st2 ad' s T'.heap lsB (locs ++ L) (cells + ((hN h1 - hN h) + (hE h1 - hE h))) (slots + (hS h1 - hS h)) := by
    intro ad' t T' L l2 st2 lsB e1 hag hRep hL hz hkeep ho2 ho3 hlv
    refine ⟨by rw [e1]; exact hRep, ho3, okP_mono q1 ho2, by rw [sP_ext hag ho2]; exact hlv, ⟨Nat.le_trans S5.1 (by rw [e1]; exact hz), fun q z1 z2 => by rw [e1, hkeep q (Nat.lt_of_lt_of_le z1 S5.1) z2]; exact S5.2.1 q z1 z2, fun q hq => ?_⟩, ⟨by omega, fun q hq => (hag q (Nat.lt_of_lt_of_le hq S6)).trans (S6' q hq)⟩, ⟨by omega, by omega⟩, by omega, by omega⟩
    rcases List.mem_append.mp hq with hh | hh
    · exact S5.2.2 q hh
    · exact hL q hh
  intro T hT' X
  rcases hr T hT' X with ⟨v', st₀, t, T', L, h0, X', hL, e1, e2, ⟨v, rfl, ad', ho, hag, hRep, hok, hF⟩, st⟩ | ⟨q, st₀, t, T', L, E, ce, h0, X', hL, e1, e2, ⟨rfl, rfl, ad', hag, hRep, hF⟩, hce, hcv, hcl', st⟩
  · have hv : v' = v.map (sv ad') := Outcome.returned.inj ho
    subst hv
    have hz := hF.1
    have hkeep := hF.2
    rw [h0] at hz hkeep
    have k3 := (kk v rfl).2 p e R s m args below meth c QQ n0 s0 C hR' RO ad' T'.heap lsA (locs ++ L) _ _ (hS' ad' t T' L ls (v.toList ++ rest) lsA e1 hag hRep hL hz hkeep S3 (okL_app.mpr ⟨by cases v with | none => trivial | some v => exact ⟨hok, trivial⟩, okL_mono q1 S2.2.2⟩) S4)
    have eL : sL ad' (v.toList ++ rest) = (v.map (sv ad')).toList ++ sL ad rest := by rw [sL_app, sL_ext hag S2.2.2]; cases v <;> rfl
    rw [eL] at k3
    obtain ⟨t2, a1, b1⟩ := k3 T' rfl X'
    exact ⟨t2, st t2 a1, b1⟩
  · have hz := hF.1
    have hkeep := hF.2
    rw [h0] at hz hkeep
    have hO := C.2.2.2.2.2.2.2.2.2.2.2.2.2.2.2.2.2.2.2.2.1
    have hcast : (Cond.castable XN XN).before args s = true := va_Nw.use rfl (hO _ List.mem_cons_self)
    have hend : ∀ (ls2 : Array Slot), lv_has ls2 (mL M) ((i, .ref q) :: (sP ad ls).filter (fun q => !(q.1 == i) && !(q.1 + 1 == i && q.2.category == 2))) → W p (gl g) e R s m args below meth c T'.heap (locs ++ L) (cells + ((hN h1 - hN h) + (hE h1 - hE h))) (slots + (hS h1 - hS h)) QQ (F0 m (hpc + len) ls2 []) := by
      intro ls2 hl2
      refine (kx rfl).2 p e R s m args below meth c QQ n0 s0 C hR' RO ad' T'.heap ls2 (locs ++ L) _ _ (hS' ad' t T' L _ [] ls2 e1 hag hRep hL hz hkeep (okP_d1 S3) trivial (lv_d1 hl2))
    have k9 : vx_W p (gl g) e R s m args below meth c T'.heap (locs ++ L) (cells + ((hN h1 - hN h) + (hE h1 - hE h))) (slots + (hS h1 - hS h)) QQ (F0 m pc lsA (sL ad rest)) q := by
      refine vx_catch (own := (mY M).cls) (name := XN) (E := XN) (ce := ce) C.2.2.2.2.2.2.1 [] ⟨s1', e1', hpc, 13⟩ [] (C.2.2.1.2 _ hT) (fun z hz' => by cases hz') ?_ (show (13 : Nat) ≠ 0 by decide) (hts _ hcl) hcast (by rw [e1]; exact hce) hcv hcl' ?_
      · simp [covers, hcov.1, hcov.2]
      · rcases hh with ⟨k, hdk, hki, rfl⟩ | ⟨hdk, rfl⟩
        · exact lv_astore_n C.1 C.2.1 (C.2.2.1.dec hdk) hki S4 hiL rfl hend
        · exact lv_astore C.1 C.2.1 (C.2.2.1.dec hdk) S4 hiL rfl hend
    obtain ⟨t2, a1, b1⟩ := k9 T' rfl X'
    exact ⟨t2, st.trans a1, b1⟩
/-- the law's wrappers -/
def wsW (M : PM) (q : Nat × Nat × Nat × Nat) : List Cond := Cond.codeWith (mY M) (mB M) (mL M) (mR M) [q] :: GW
def WCalls (g : GT) (d : Nat) (M : PM) (q : Nat × Nat × Nat × Nat) (args : List Value) (h : PH) (v : Option Value) (h' : PH) : Prop :=
  hLe h h' ∧ ∀ ad : Nat → Nat, okL (hN h) args → Met (gl g) (mY M) (wsW M q) (rmOf d h h') (preC g ad args h) (postC' g ad h v h') ((hN h' - hN h) + (hE h' - hE h)) (hS h' - hS h) (AA g)
theorem WCalls.of {M2 : PM} {d : Nat} {as : List Value} {v : Option Value} {h1 : PH} {q0 : Nat × Nat × Nat × Nat} (hcode : CodeOK M2) (hT : hTab M2 = some q0) (hplain : plainName (mY M2).cls = true) (hsz : ∀ ad : Nat → Nat, (lg_sl (sL ad as)).length ≤ mL M2) (k : Run g M2 d 0 (lv_args 0 as) [] h (some v) h1) : WCalls g d M2 q0 as h v h1 := by
  refine ⟨k.1, fun ad hok => ?_⟩
  refine va_MetW (cc := mB M2) (maxL := mL M2) (ret := mR M2) (hh := [q0]) hplain rfl ?_
  intro p e s m args below meth c s₁ B hml hv
  obtain ⟨rfl, ⟨hNw, hK', hOld⟩, hRep⟩ := hv
  have hx := B.exec
  have hb := B.bytes
  have hr := B.returns
  have hlk := B.notSynchronized
  have hts : ∀ w ∈ wsW M2 q0, w.before _ s = true := atoms_spec (ws := wsW M2 q0) B.pre
  have hown : s.vm.findClass (mY M2).cls = some m.cls := findClass_of_methodNamed B.named
  have htab := vx_table (x := mY M2) B (hts _ List.mem_cons_self)
  have C : Cx g M2 p s m (sL ad as).toArray meth c := ⟨hx, hb, ⟨hcode, fun q hq => by rw [hT] at hq; cases hq; exact htab⟩, hr, hlk, hml, hown, (name_of_methodNamed B.named B.method).1, fun w hw => hts w (List.mem_cons_of_mem _ hw), hNw, hK', hOld⟩
  have hl := lv_entry (sL ad as) (n := mL M2) (hsz ad)
  rw [lg_entry_eq]
  generalize (lg_sl (sL ad as) ++ List.replicate (mL M2 - (lg_sl (sL ad as)).length) Slot.unset).toArray = lsA at hl ⊢
  refine k.2 p e (headSpec (wsW M2 q0) (rmOf d h h1)).room s m _ below meth c _ (hN h, ad, hE h) (hS h) C ⟨Nat.le_refl _, Nat.le_refl _, Nat.le_refl _, Nat.le_refl _⟩ ⟨?_, fun z => by cases z⟩ ad s.heap lsA [] 0 0 ⟨hRep, trivial, lv_args_okP 0 hok, by rw [← lv_args_sP]; exact hl, va_S.rf, ⟨Nat.le_refl _, fun _ _ => rfl⟩, ⟨Nat.le_refl _, Nat.le_refl _⟩, by simp, (Nat.sub_self _).symm⟩
  intro pc i st ad' H lsA' locs cells slots hdg hi S
  obtain ⟨S1, S2, -, -, S5, ⟨S6, S6'⟩, S7, rfl, rfl⟩ := S
  have hq : ∀ (o : Option Value), v = o → okO (hN h1) o → ∀ t : State, t.heap = H → s.WarmedH t.vm → postC' g ad h v h1 (sL ad as).toArray s (.returned (o.map (sv ad'))) t := by
    rintro o rfl ho t ht hW
    exact ⟨ad', rfl, S6', by rw [ht]; exact S1, ho, S5.F ht⟩
  rcases hi with ⟨rfl, x, ty, rfl, hv, hty, hn⟩ | ⟨rfl, x, rfl, hv, hty⟩ | ⟨rfl, t, rt, rfl, hv, hty, hrt⟩ | ⟨rfl, rfl, hv, hty⟩
  · exact W.zret hx hb (hr.trans hty) hn (hq (some (.int x)) (Option.some.inj hv) trivial) S5.2.2 hdg hlk
  · exact W.lret hx hb (hr.trans hty) (hq (some (.long x)) (Option.some.inj hv) trivial) S5.2.2 hdg hlk
  · have h9 := hq (some (va_rf t)) (Option.some.inj hv) S2.1
    exact W.aret (v := sv ad' (va_rf t)) hx hb (hr.trans hty) hrt (by rw [sv_rf]; cases t with | none => exact Or.inl rfl | some q => exact Or.inr ⟨_, rfl⟩) h9 S5.2.2 hdg hlk
  · exact W.vret hx hb (hr.trans hty) (hq none (Option.some.inj hv) trivial) S5.2.2 hdg hlk
def PlainW (M2 : PM) (q : Nat × Nat × Nat × Nat) (n : Nat) : Prop := (mY M2).cls ≠ "java/lang/invoke/MethodHandle" ∧ (mY M2).cls ≠ "java/lang/invoke/VarHandle" ∧ (parseMethodDescriptor (mY M2).desc).map (fun d => d.parameters.length) = some n ∧ mL M2 ≤ 30 ∧ Cond.codeWith (mY M2) (mB M2) (mL M2) (mR M2) [q] ∈ GW ∧ Cond.initialized (mY M2).cls ∈ GW
theorem goodIn_wsW {M2 : PM} {q : Nat × Nat × Nat × Nat} (hc : Cond.codeWith (mY M2) (mB M2) (mL M2) (mR M2) [q] ∈ GW) : GoodIn GW (wsW M2 q) := by
  intro w hw
  rcases List.mem_cons.mp hw with rfl | hw
  · exact ⟨hc, good_of_word (GW_good _ hc)⟩
  · exact ⟨hw, good_of_word (GW_good _ hw)⟩
theorem r_callSW {M2 : PM} {q0 : Nat × Nat × Nat × Nat} {idx n : Nat} {as : List Value} {st : List Value} {v : Option Value} {h1 : PH} (hd : cd M pc = some (.invokestatic idx, 3)) (hp : PlainW M2 q0 n) (hl : Cond.methodLink (mY M).cls idx (mY M2) ∈ GW) (hi : Cond.static (mY M2) ∈ GW)
    (hst : st = as.reverse ++ rest) (hn : as.length = n) (hcat : (rest.map fun v => v.category).sum ≤ 8) (hc : WCalls g d M2 q0 as h v h1) (kk : Run g M (d + 1) (pc + 3) ls (v.toList ++ rest) h1 r h') : Run g M (d + 1) pc ls st h r h' := by
  subst hst
  refine ⟨hc.1.tr kk.1, ?_⟩
  intro p e R s m args below meth c QQ n0 s0 C hR' RO ad H lsA locs cells slots S
  have hts := C.2.2.2.2.2.2.2.2.1
  obtain ⟨p1, p2, p3, p4, p5, p6⟩ := hp
  have S2 := okL_app.mp S.2.1
  have hM := hc.2 ad (okL_rev.mp S2.1)
  obtain ⟨⟨S6, S6'⟩, ⟨S7, S7'⟩, S8, S9⟩ := S.2.2.2.2.2
  obtain ⟨q1, q2, q5⟩ := hc.1
  obtain ⟨q3, q4, q6⟩ := kk.1
  refine of_run (M2 := M2) (d2 := d) (a := (sL ad as).toArray) kk C hR' RO S S2.2 hc.1 ?_
  refine vx_runSW (As := sL ad as) (n := n) ⟨C.1, C.2.1, C.2.2.2.2.2.1, C.2.2.2.2.2.2.1, hts⟩ hM (vx_cwSW n hts (goodIn_cons hl (goodIn_cons hi (goodIn_cons p6 (goodIn_wsW p5)))) rfl rfl rfl ⟨p1, p2, p3⟩ ⟨by show d + 1 ≤ R.frames; exact hR'.1, by show 8 + (mL M2 + 11) + 64 * d ≤ R.locals; have := hR'.2.1; omega⟩) ⟨pre_blind, pre_at C S⟩ rfl (by rw [sL_len]; exact hn) S.2.2.2.1.1 (by rw [sL_app, sL_rev]) (lv_room (by rw [sL_cat]; exact hcat)) (C.2.2.1.dec hd) ⟨?_, ?_⟩
  · have := hR'.2.2.1; omega
  · have := hR'.2.2.2; omega
theorem r_mmax {idx : Nat} {x y : Int32} (hd : cd M pc = some (.invokestatic idx, 3)) (hl : Cond.methodLink (mY M).cls idx Lib.Math.max.name ∈ GW) (h1 : Cond.static Lib.Math.max.name ∈ GW) (h2 : Cond.initialized "java/lang/Math" ∈ GW) (h3 : Cond.code Lib.Math.max.name Lib.Math.max.code 2 (some .int) ∈ GW) (hcat : (rest.map fun v => v.category).sum ≤ 8)
    (kk : Run g M (d + 1) (pc + 3) ls (.int (if x < y then y else x) :: rest) h r h') : Run g M (d + 1) pc ls (.int y :: .int x :: rest) h r h' := by
  refine ⟨kk.1, ?_⟩
  intro p e R s m args below meth c QQ n0 s0 C hR' RO ad H lsA locs cells slots S
  have hts := C.2.2.2.2.2.2.2.2.1
  obtain ⟨⟨S6, S6'⟩, ⟨S7, S7'⟩, S8, S9⟩ := S.2.2.2.2.2
  obtain ⟨q3, q4, q6⟩ := kk.1
  obtain ⟨t1, t2, t3, t4⟩ := hR'
  refine va_mmax C.1 C.2.1 (C.2.2.2.2.2.1.trans S.2.2.2.1.1.symm) C.2.2.2.2.2.2.1 (hts _ hl) (hts _ h1) (hts _ h2) (hts _ h3) (by omega) (by rw [sL_cat]; omega) (by omega) (by omega) (C.2.2.1.dec hd) ?_
  exact kk.2 p e R s m args below meth c QQ n0 s0 C ⟨t1, t2, t3, t4⟩ RO ad H lsA locs cells slots ⟨S.1, ⟨trivial, S.2.1.2.2⟩, S.2.2⟩
theorem r_mmin {idx : Nat} {x y : Int32} (hd : cd M pc = some (.invokestatic idx, 3)) (hl : Cond.methodLink (mY M).cls idx Lib.Math.min.name ∈ GW) (h1 : Cond.static Lib.Math.min.name ∈ GW) (h2 : Cond.initialized "java/lang/Math" ∈ GW) (h3 : Cond.code Lib.Math.min.name Lib.Math.min.code 2 (some .int) ∈ GW) (hcat : (rest.map fun v => v.category).sum ≤ 8)
    (kk : Run g M (d + 1) (pc + 3) ls (.int (if y < x then y else x) :: rest) h r h') : Run g M (d + 1) pc ls (.int y :: .int x :: rest) h r h' := by
  refine ⟨kk.1, ?_⟩
  intro p e R s m args below meth c QQ n0 s0 C hR' RO ad H lsA locs cells slots S
  have hts := C.2.2.2.2.2.2.2.2.1
  obtain ⟨⟨S6, S6'⟩, ⟨S7, S7'⟩, S8, S9⟩ := S.2.2.2.2.2
  obtain ⟨q3, q4, q6⟩ := kk.1
  obtain ⟨t1, t2, t3, t4⟩ := hR'
  refine va_mmin C.1 C.2.1 (C.2.2.2.2.2.1.trans S.2.2.2.1.1.symm) C.2.2.2.2.2.2.1 (hts _ hl) (hts _ h1) (hts _ h2) (hts _ h3) (by omega) (by rw [sL_cat]; omega) (by omega) (by omega) (C.2.2.1.dec hd) ?_
  exact kk.2 p e R s m args below meth c QQ n0 s0 C ⟨t1, t2, t3, t4⟩ RO ad H lsA locs cells slots ⟨S.1, ⟨trivial, S.2.1.2.2⟩, S.2.2⟩
theorem r_callSW1 {M2 : PM} {q0 : Nat × Nat × Nat × Nat} {idx n : Nat} {as : List Value} {st : List Value} {w : Value} {h1 : PH} (hd : cd M pc = some (.invokestatic idx, 3)) (hp : PlainW M2 q0 n) (hl : Cond.methodLink (mY M).cls idx (mY M2) ∈ GW) (hi : Cond.static (mY M2) ∈ GW)
    (hst : st = as.reverse ++ rest) (hn : as.length = n) (hcat : (rest.map fun v => v.category).sum ≤ 8) (hc : WCalls g d M2 q0 as h (some w) h1) (kk : Run g M (d + 1) (pc + 3) ls (w :: rest) h1 r h') : Run g M (d + 1) pc ls st h r h' := r_callSW hd hp hl hi hst hn hcat hc kk
-- r_callSW0: none
end OR
