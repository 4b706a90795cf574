theorem St.ld {g : GT} {M : PM} {n0 : NA} {s0 : Nat} {h : PH} {ls : List (Nat × Value)} {st : List Value} {ad : Nat → Nat} {s : State} {H : Heap} {lsA : Array Slot} {locs : List Loc} {cells slots : Nat} (S : St g M n0 s0 h ls st ad s H lsA locs cells slots) {i : Nat} {v : Value} (hl : lk ls i = some v) : lsA[i]? = some (.val (sv ad v)) := S.2.2.2.1.2.2 _ (lk_mem (lk_sP hl))
theorem St.lt {g : GT} {M : PM} {n0 : NA} {s0 : Nat} {h : PH} {ls : List (Nat × Value)} {st : List Value} {ad : Nat → Nat} {s : State} {H : Heap} {lsA : Array Slot} {locs : List Loc} {cells slots : Nat} (S : St g M n0 s0 h ls st ad s H lsA locs cells slots) {i : Nat} {v : Value} (hl : lk ls i = some v) : okv (hN h) v := lk_ok hl S.2.2.1
theorem k_of_lk {l : List (Nat × Value)} : ∀ {i : Nat} {v : Value}, lk l i = some v → ∃ k : Nat, l[k]? = some (i, v) := fun h => List.getElem?_of_mem (lk_mem h)
theorem r_iconst {g : GT} {M : PM} {d pc : Nat} {ls : List (Nat × Value)} {rest : List Value} {h : PH} {r : Res} {h' : PH} {n : Int} (v : Int32) (hd : cd M pc = some (.iconst n, 1)) (hv : Int32.ofInt n = v) (k : Run g M d (pc + 1) ls (.int v :: rest) h r h') : Run g M d pc ls (rest) h r h' := by
  refine ⟨k.1, ?_⟩
  intro p e R s m args below meth c QQ n0 s0 C hR RO ad H lsA locs cells slots S
  refine lv_iconst (v := v) C.1 C.2.1 (C.2.2.1.dec hd) hv ?_
  exact k.2 p e R s m args below meth c QQ n0 s0 C hR RO ad H lsA locs cells slots ⟨S.1, ⟨trivial, S.2.1⟩, S.2.2⟩
theorem r_bipush {g : GT} {M : PM} {d pc : Nat} {ls : List (Nat × Value)} {rest : List Value} {h : PH} {r : Res} {h' : PH} {n : Int} (v : Int32) (hd : cd M pc = some (.bipush n, 2)) (hv : (Int8.ofInt n).toInt32 = v) (k : Run g M d (pc + 2) ls (.int v :: rest) h r h') : Run g M d pc ls (rest) h r h' := by
  refine ⟨k.1, ?_⟩
  intro p e R s m args below meth c QQ n0 s0 C hR RO ad H lsA locs cells slots S
  refine lv_bipush (v := v) C.1 C.2.1 (C.2.2.1.dec hd) hv ?_
  exact k.2 p e R s m args below meth c QQ n0 s0 C hR RO ad H lsA locs cells slots ⟨S.1, ⟨trivial, S.2.1⟩, S.2.2⟩
theorem r_sipush {g : GT} {M : PM} {d pc : Nat} {ls : List (Nat × Value)} {rest : List Value} {h : PH} {r : Res} {h' : PH} {n : Int} (v : Int32) (hd : cd M pc = some (.sipush n, 3)) (hv : (Int16.ofInt n).toInt32 = v) (k : Run g M d (pc + 3) ls (.int v :: rest) h r h') : Run g M d pc ls (rest) h r h' := by
  refine ⟨k.1, ?_⟩
  intro p e R s m args below meth c QQ n0 s0 C hR RO ad H lsA locs cells slots S
  refine lv_sipush (v := v) C.1 C.2.1 (C.2.2.1.dec hd) hv ?_
  exact k.2 p e R s m args below meth c QQ n0 s0 C hR RO ad H lsA locs cells slots ⟨S.1, ⟨trivial, S.2.1⟩, S.2.2⟩
theorem r_lconst {g : GT} {M : PM} {d pc : Nat} {ls : List (Nat × Value)} {rest : List Value} {h : PH} {r : Res} {h' : PH} {n : Fin 2} (v : Int64) (hd : cd M pc = some (.lconst n, 1)) (hv : Int64.ofNat (n : Nat) = v) (k : Run g M d (pc + 1) ls (.long v :: rest) h r h') : Run g M d pc ls (rest) h r h' := by
  refine ⟨k.1, ?_⟩
  intro p e R s m args below meth c QQ n0 s0 C hR RO ad H lsA locs cells slots S
  refine lv_lconst (v := v) C.1 C.2.1 (C.2.2.1.dec hd) hv ?_
  exact k.2 p e R s m args below meth c QQ n0 s0 C hR RO ad H lsA locs cells slots ⟨S.1, ⟨trivial, S.2.1⟩, S.2.2⟩
theorem r_null {g : GT} {M : PM} {d pc : Nat} {ls : List (Nat × Value)} {rest : List Value} {h : PH} {r : Res} {h' : PH}  (hd : cd M pc = some (.aconst_null, 1))  (k : Run g M d (pc + 1) ls (va_rf none :: rest) h r h') : Run g M d pc ls (rest) h r h' := by
  refine ⟨k.1, ?_⟩
  intro p e R s m args below meth c QQ n0 s0 C hR RO ad H lsA locs cells slots S
  refine lv_null C.1 C.2.1 (C.2.2.1.dec hd)  ?_
  exact k.2 p e R s m args below meth c QQ n0 s0 C hR RO ad H lsA locs cells slots ⟨S.1, ⟨trivial, S.2.1⟩, S.2.2⟩
theorem r_iload_n {g : GT} {M : PM} {d pc : Nat} {ls : List (Nat × Value)} {rest : List Value} {h : PH} {r : Res} {h' : PH} {n : Fin 4} (i : Nat) {x : Int32} (hd : cd M pc = some (.iload_n n, 1)) (hi : (n : Nat) = i) (hl : lk ls i = some (.int x)) (k : Run g M d (pc + 1) ls (.int x :: rest) h r h') : Run g M d pc ls (rest) h r h' := by
  refine ⟨k.1, ?_⟩
  intro p e R s m args below meth c QQ n0 s0 C hR RO ad H lsA locs cells slots S
  refine lv_iload_n (x := x) C.1 C.2.1 (C.2.2.1.dec hd) hi (S.ld hl) ?_
  exact k.2 p e R s m args below meth c QQ n0 s0 C hR RO ad H lsA locs cells slots ⟨S.1, ⟨trivial, S.2.1⟩, S.2.2⟩
theorem r_iload {g : GT} {M : PM} {d pc : Nat} {ls : List (Nat × Value)} {rest : List Value} {h : PH} {r : Res} {h' : PH} {i : Nat} {x : Int32} (hd : cd M pc = some (.iload i, 2)) (hl : lk ls i = some (.int x)) (k : Run g M d (pc + 2) ls (.int x :: rest) h r h') : Run g M d pc ls (rest) h r h' := by
  refine ⟨k.1, ?_⟩
  intro p e R s m args below meth c QQ n0 s0 C hR RO ad H lsA locs cells slots S
  refine lv_iload (x := x) C.1 C.2.1 (C.2.2.1.dec hd) (S.ld hl) ?_
  exact k.2 p e R s m args below meth c QQ n0 s0 C hR RO ad H lsA locs cells slots ⟨S.1, ⟨trivial, S.2.1⟩, S.2.2⟩
theorem r_lload_n {g : GT} {M : PM} {d pc : Nat} {ls : List (Nat × Value)} {rest : List Value} {h : PH} {r : Res} {h' : PH} {n : Fin 4} (i : Nat) {x : Int64} (hd : cd M pc = some (.lload_n n, 1)) (hi : (n : Nat) = i) (hl : lk ls i = some (.long x)) (k : Run g M d (pc + 1) ls (.long x :: rest) h r h') : Run g M d pc ls (rest) h r h' := by
  refine ⟨k.1, ?_⟩
  intro p e R s m args below meth c QQ n0 s0 C hR RO ad H lsA locs cells slots S
  refine lv_lload_n (x := x) C.1 C.2.1 (C.2.2.1.dec hd) hi (S.ld hl) ?_
  exact k.2 p e R s m args below meth c QQ n0 s0 C hR RO ad H lsA locs cells slots ⟨S.1, ⟨trivial, S.2.1⟩, S.2.2⟩
theorem r_lload {g : GT} {M : PM} {d pc : Nat} {ls : List (Nat × Value)} {rest : List Value} {h : PH} {r : Res} {h' : PH} {i : Nat} {x : Int64} (hd : cd M pc = some (.lload i, 2)) (hl : lk ls i = some (.long x)) (k : Run g M d (pc + 2) ls (.long x :: rest) h r h') : Run g M d pc ls (rest) h r h' := by
  refine ⟨k.1, ?_⟩
  intro p e R s m args below meth c QQ n0 s0 C hR RO ad H lsA locs cells slots S
  refine lv_lload (x := x) C.1 C.2.1 (C.2.2.1.dec hd) (S.ld hl) ?_
  exact k.2 p e R s m args below meth c QQ n0 s0 C hR RO ad H lsA locs cells slots ⟨S.1, ⟨trivial, S.2.1⟩, S.2.2⟩
theorem r_aload_n {g : GT} {M : PM} {d pc : Nat} {ls : List (Nat × Value)} {rest : List Value} {h : PH} {r : Res} {h' : PH} {n : Fin 4} (i : Nat) {t : Option Nat} (hd : cd M pc = some (.aload_n n, 1)) (hi : (n : Nat) = i) (hl : lk ls i = some (va_rf t)) (k : Run g M d (pc + 1) ls (va_rf t :: rest) h r h') : Run g M d pc ls rest h r h' := by
  refine ⟨k.1, ?_⟩
  intro p e R s m args below meth c QQ n0 s0 C hR RO ad H lsA locs cells slots S
  have hh := S.ld hl
  have ho := S.lt hl
  have kk := k.2 p e R s m args below meth c QQ n0 s0 C hR RO ad H lsA locs cells slots ⟨S.1, ⟨ho, S.2.1⟩, S.2.2⟩
  cases t with
  | none => exact lv_aload_nN C.1 C.2.1 (C.2.2.1.dec hd) hi hh kk
  | some a => exact lv_aload_n C.1 C.2.1 (C.2.2.1.dec hd) hi hh kk
theorem r_aload {g : GT} {M : PM} {d pc : Nat} {ls : List (Nat × Value)} {rest : List Value} {h : PH} {r : Res} {h' : PH} {i : Nat} {t : Option Nat} (hd : cd M pc = some (.aload i, 2)) (hl : lk ls i = some (va_rf t)) (k : Run g M d (pc + 2) ls (va_rf t :: rest) h r h') : Run g M d pc ls rest h r h' := by
  refine ⟨k.1, ?_⟩
  intro p e R s m args below meth c QQ n0 s0 C hR RO ad H lsA locs cells slots S
  have hh := S.ld hl
  have ho := S.lt hl
  have kk := k.2 p e R s m args below meth c QQ n0 s0 C hR RO ad H lsA locs cells slots ⟨S.1, ⟨ho, S.2.1⟩, S.2.2⟩
  cases t with
  | none => exact lv_aloadN C.1 C.2.1 (C.2.2.1.dec hd) hh kk
  | some a => exact lv_aload C.1 C.2.1 (C.2.2.1.dec hd) hh kk
theorem r_istore_n {g : GT} {M : PM} {d pc : Nat} {ls : List (Nat × Value)} {rest : List Value} {h : PH} {r : Res} {h' : PH} {n : Fin 4} (i : Nat) {x : Int32} (hd : cd M pc = some (.istore_n n, 1)) (hi : (n : Nat) = i) (hn : i < mL M) (k : Run g M d (pc + 1) (s1 ls i (.int x)) rest h r h') : Run g M d pc ls (.int x :: rest) h r h' := by
  refine ⟨k.1, ?_⟩
  intro p e R s m args below meth c QQ n0 s0 C hR RO ad H lsA locs cells slots S
  refine lv_istore_n C.1 C.2.1 (C.2.2.1.dec hd) hi S.2.2.2.1 hn rfl (fun ls' hls => ?_)
  exact k.2 p e R s m args below meth c QQ n0 s0 C hR RO ad H ls' locs cells slots ⟨S.1, S.2.1.2, ⟨S.2.1.1, okP_d1 S.2.2.1⟩, lv_s1 hls, S.2.2.2.2⟩
theorem r_istore {g : GT} {M : PM} {d pc : Nat} {ls : List (Nat × Value)} {rest : List Value} {h : PH} {r : Res} {h' : PH} {i : Nat} {x : Int32} (hd : cd M pc = some (.istore i, 2)) (hn : i < mL M) (k : Run g M d (pc + 2) (s1 ls i (.int x)) rest h r h') : Run g M d pc ls (.int x :: rest) h r h' := by
  refine ⟨k.1, ?_⟩
  intro p e R s m args below meth c QQ n0 s0 C hR RO ad H lsA locs cells slots S
  refine lv_istore C.1 C.2.1 (C.2.2.1.dec hd) S.2.2.2.1 hn rfl (fun ls' hls => ?_)
  exact k.2 p e R s m args below meth c QQ n0 s0 C hR RO ad H ls' locs cells slots ⟨S.1, S.2.1.2, ⟨S.2.1.1, okP_d1 S.2.2.1⟩, lv_s1 hls, S.2.2.2.2⟩
theorem r_lstore_n {g : GT} {M : PM} {d pc : Nat} {ls : List (Nat × Value)} {rest : List Value} {h : PH} {r : Res} {h' : PH} {n : Fin 4} (i : Nat) {x : Int64} (hd : cd M pc = some (.lstore_n n, 1)) (hi : (n : Nat) = i) (hn : i + 1 < mL M) (k : Run g M d (pc + 1) (s2 ls i (.long x)) rest h r h') : Run g M d pc ls (.long x :: rest) h r h' := by
  refine ⟨k.1, ?_⟩
  intro p e R s m args below meth c QQ n0 s0 C hR RO ad H lsA locs cells slots S
  refine lv_lstore_n C.1 C.2.1 (C.2.2.1.dec hd) hi S.2.2.2.1 hn rfl (fun ls' hls => ?_)
  exact k.2 p e R s m args below meth c QQ n0 s0 C hR RO ad H ls' locs cells slots ⟨S.1, S.2.1.2, ⟨S.2.1.1, okP_d2 S.2.2.1⟩, lv_s2 hls, S.2.2.2.2⟩
theorem r_lstore {g : GT} {M : PM} {d pc : Nat} {ls : List (Nat × Value)} {rest : List Value} {h : PH} {r : Res} {h' : PH} {i : Nat} {x : Int64} (hd : cd M pc = some (.lstore i, 2)) (hn : i + 1 < mL M) (k : Run g M d (pc + 2) (s2 ls i (.long x)) rest h r h') : Run g M d pc ls (.long x :: rest) h r h' := by
  refine ⟨k.1, ?_⟩
  intro p e R s m args below meth c QQ n0 s0 C hR RO ad H lsA locs cells slots S
  refine lv_lstore C.1 C.2.1 (C.2.2.1.dec hd) S.2.2.2.1 hn rfl (fun ls' hls => ?_)
  exact k.2 p e R s m args below meth c QQ n0 s0 C hR RO ad H ls' locs cells slots ⟨S.1, S.2.1.2, ⟨S.2.1.1, okP_d2 S.2.2.1⟩, lv_s2 hls, S.2.2.2.2⟩
theorem r_astore_n {g : GT} {M : PM} {d pc : Nat} {ls : List (Nat × Value)} {rest : List Value} {h : PH} {r : Res} {h' : PH} {n : Fin 4} (i : Nat) {t : Option Nat} (hd : cd M pc = some (.astore_n n, 1)) (hi : (n : Nat) = i) (hn : i < mL M) (k : Run g M d (pc + 1) (s1 ls i (va_rf t)) rest h r h') : Run g M d pc ls (va_rf t :: rest) h r h' := by
  refine ⟨k.1, ?_⟩
  intro p e R s m args below meth c QQ n0 s0 C hR RO ad H lsA locs cells slots S
  cases t with
  | none =>
    refine lv_astore_nN C.1 C.2.1 (C.2.2.1.dec hd) hi S.2.2.2.1 hn rfl (fun ls' hls => ?_)
    exact k.2 p e R s m args below meth c QQ n0 s0 C hR RO ad H ls' locs cells slots ⟨S.1, S.2.1.2, ⟨S.2.1.1, okP_d1 S.2.2.1⟩, lv_s1 hls, S.2.2.2.2⟩
  | some a =>
    refine lv_astore_n C.1 C.2.1 (C.2.2.1.dec hd) hi S.2.2.2.1 hn rfl (fun ls' hls => ?_)
    exact k.2 p e R s m args below meth c QQ n0 s0 C hR RO ad H ls' locs cells slots ⟨S.1, S.2.1.2, ⟨S.2.1.1, okP_d1 S.2.2.1⟩, lv_s1 hls, S.2.2.2.2⟩
theorem r_astore {g : GT} {M : PM} {d pc : Nat} {ls : List (Nat × Value)} {rest : List Value} {h : PH} {r : Res} {h' : PH} {i : Nat} {t : Option Nat} (hd : cd M pc = some (.astore i, 2)) (hn : i < mL M) (k : Run g M d (pc + 2) (s1 ls i (va_rf t)) rest h r h') : Run g M d pc ls (va_rf t :: rest) h r h' := by
  refine ⟨k.1, ?_⟩
  intro p e R s m args below meth c QQ n0 s0 C hR RO ad H lsA locs cells slots S
  cases t with
  | none =>
    refine lv_astoreN C.1 C.2.1 (C.2.2.1.dec hd) S.2.2.2.1 hn rfl (fun ls' hls => ?_)
    exact k.2 p e R s m args below meth c QQ n0 s0 C hR RO ad H ls' locs cells slots ⟨S.1, S.2.1.2, ⟨S.2.1.1, okP_d1 S.2.2.1⟩, lv_s1 hls, S.2.2.2.2⟩
  | some a =>
    refine lv_astore C.1 C.2.1 (C.2.2.1.dec hd) S.2.2.2.1 hn rfl (fun ls' hls => ?_)
    exact k.2 p e R s m args below meth c QQ n0 s0 C hR RO ad H ls' locs cells slots ⟨S.1, S.2.1.2, ⟨S.2.1.1, okP_d1 S.2.2.1⟩, lv_s1 hls, S.2.2.2.2⟩
theorem r_iinc {g : GT} {M : PM} {d pc : Nat} {ls : List (Nat × Value)} {rest : List Value} {h : PH} {r : Res} {h' : PH} {i : Nat} {n : Int} {x : Int32} (v : Int32) (hd : cd M pc = some (.iinc i n, 3)) (hl : lk ls i = some (.int x)) (hv : x + Int32.ofInt n = v) (hn : i < mL M) (k : Run g M d (pc + 3) (s1 ls i (.int v)) rest h r h') : Run g M d pc ls rest h r h' := by
  refine ⟨k.1, ?_⟩
  intro p e R s m args below meth c QQ n0 s0 C hR RO ad H lsA locs cells slots S
  obtain ⟨q, hq⟩ := k_of_lk (lk_sP (ad := ad) hl)
  refine lv_iinc C.1 C.2.1 (C.2.2.1.dec hd) S.2.2.2.1 hq hv hn rfl (fun ls' hls => ?_)
  exact k.2 p e R s m args below meth c QQ n0 s0 C hR RO ad H ls' locs cells slots ⟨S.1, S.2.1, ⟨trivial, okP_d1 S.2.2.1⟩, lv_s1 hls, S.2.2.2.2⟩
theorem r_iadd {g : GT} {M : PM} {d pc : Nat} {ls : List (Nat × Value)} {rest : List Value} {h : PH} {r : Res} {h' : PH} {x y : Int32} (hd : cd M pc = some (.iadd, 1))  (k : Run g M d (pc + 1) ls (.int (x + y) :: rest) h r h') : Run g M d pc ls (.int y :: .int x :: rest) h r h' := by
  refine ⟨k.1, ?_⟩
  intro p e R s m args below meth c QQ n0 s0 C hR RO ad H lsA locs cells slots S
  refine lv_iadd C.1 C.2.1 (C.2.2.1.dec hd)  ?_
  exact k.2 p e R s m args below meth c QQ n0 s0 C hR RO ad H lsA locs cells slots ⟨S.1, ⟨trivial, S.2.1.2.2⟩, S.2.2⟩
theorem r_isub {g : GT} {M : PM} {d pc : Nat} {ls : List (Nat × Value)} {rest : List Value} {h : PH} {r : Res} {h' : PH} {x y : Int32} (hd : cd M pc = some (.isub, 1))  (k : Run g M d (pc + 1) ls (.int (x - y) :: rest) h r h') : Run g M d pc ls (.int y :: .int x :: rest) h r h' := by
  refine ⟨k.1, ?_⟩
  intro p e R s m args below meth c QQ n0 s0 C hR RO ad H lsA locs cells slots S
  refine lv_isub C.1 C.2.1 (C.2.2.1.dec hd)  ?_
  exact k.2 p e R s m args below meth c QQ n0 s0 C hR RO ad H lsA locs cells slots ⟨S.1, ⟨trivial, S.2.1.2.2⟩, S.2.2⟩
theorem r_imul {g : GT} {M : PM} {d pc : Nat} {ls : List (Nat × Value)} {rest : List Value} {h : PH} {r : Res} {h' : PH} {x y : Int32} (hd : cd M pc = some (.imul, 1))  (k : Run g M d (pc + 1) ls (.int (x * y) :: rest) h r h') : Run g M d pc ls (.int y :: .int x :: rest) h r h' := by
  refine ⟨k.1, ?_⟩
  intro p e R s m args below meth c QQ n0 s0 C hR RO ad H lsA locs cells slots S
  refine lv_imul C.1 C.2.1 (C.2.2.1.dec hd)  ?_
  exact k.2 p e R s m args below meth c QQ n0 s0 C hR RO ad H lsA locs cells slots ⟨S.1, ⟨trivial, S.2.1.2.2⟩, S.2.2⟩
theorem r_iand {g : GT} {M : PM} {d pc : Nat} {ls : List (Nat × Value)} {rest : List Value} {h : PH} {r : Res} {h' : PH} {x y : Int32} (hd : cd M pc = some (.iand, 1))  (k : Run g M d (pc + 1) ls (.int (x &&& y) :: rest) h r h') : Run g M d pc ls (.int y :: .int x :: rest) h r h' := by
  refine ⟨k.1, ?_⟩
  intro p e R s m args below meth c QQ n0 s0 C hR RO ad H lsA locs cells slots S
  refine lv_iand C.1 C.2.1 (C.2.2.1.dec hd)  ?_
  exact k.2 p e R s m args below meth c QQ n0 s0 C hR RO ad H lsA locs cells slots ⟨S.1, ⟨trivial, S.2.1.2.2⟩, S.2.2⟩
theorem r_ior {g : GT} {M : PM} {d pc : Nat} {ls : List (Nat × Value)} {rest : List Value} {h : PH} {r : Res} {h' : PH} {x y : Int32} (hd : cd M pc = some (.ior, 1))  (k : Run g M d (pc + 1) ls (.int (x ||| y) :: rest) h r h') : Run g M d pc ls (.int y :: .int x :: rest) h r h' := by
  refine ⟨k.1, ?_⟩
  intro p e R s m args below meth c QQ n0 s0 C hR RO ad H lsA locs cells slots S
  refine lv_ior C.1 C.2.1 (C.2.2.1.dec hd)  ?_
  exact k.2 p e R s m args below meth c QQ n0 s0 C hR RO ad H lsA locs cells slots ⟨S.1, ⟨trivial, S.2.1.2.2⟩, S.2.2⟩
theorem r_ixor {g : GT} {M : PM} {d pc : Nat} {ls : List (Nat × Value)} {rest : List Value} {h : PH} {r : Res} {h' : PH} {x y : Int32} (hd : cd M pc = some (.ixor, 1))  (k : Run g M d (pc + 1) ls (.int (x ^^^ y) :: rest) h r h') : Run g M d pc ls (.int y :: .int x :: rest) h r h' := by
  refine ⟨k.1, ?_⟩
  intro p e R s m args below meth c QQ n0 s0 C hR RO ad H lsA locs cells slots S
  refine lv_ixor C.1 C.2.1 (C.2.2.1.dec hd)  ?_
  exact k.2 p e R s m args below meth c QQ n0 s0 C hR RO ad H lsA locs cells slots ⟨S.1, ⟨trivial, S.2.1.2.2⟩, S.2.2⟩
theorem r_ishl {g : GT} {M : PM} {d pc : Nat} {ls : List (Nat × Value)} {rest : List Value} {h : PH} {r : Res} {h' : PH} {x y : Int32} (hd : cd M pc = some (.ishl, 1))  (k : Run g M d (pc + 1) ls (.int (x <<< (y &&& 31)) :: rest) h r h') : Run g M d pc ls (.int y :: .int x :: rest) h r h' := by
  refine ⟨k.1, ?_⟩
  intro p e R s m args below meth c QQ n0 s0 C hR RO ad H lsA locs cells slots S
  refine lv_ishl C.1 C.2.1 (C.2.2.1.dec hd)  ?_
  exact k.2 p e R s m args below meth c QQ n0 s0 C hR RO ad H lsA locs cells slots ⟨S.1, ⟨trivial, S.2.1.2.2⟩, S.2.2⟩
theorem r_ishr {g : GT} {M : PM} {d pc : Nat} {ls : List (Nat × Value)} {rest : List Value} {h : PH} {r : Res} {h' : PH} {x y : Int32} (hd : cd M pc = some (.ishr, 1))  (k : Run g M d (pc + 1) ls (.int (x >>> (y &&& 31)) :: rest) h r h') : Run g M d pc ls (.int y :: .int x :: rest) h r h' := by
  refine ⟨k.1, ?_⟩
  intro p e R s m args below meth c QQ n0 s0 C hR RO ad H lsA locs cells slots S
  refine lv_ishr C.1 C.2.1 (C.2.2.1.dec hd)  ?_
  exact k.2 p e R s m args below meth c QQ n0 s0 C hR RO ad H lsA locs cells slots ⟨S.1, ⟨trivial, S.2.1.2.2⟩, S.2.2⟩
theorem r_idiv {g : GT} {M : PM} {d pc : Nat} {ls : List (Nat × Value)} {rest : List Value} {h : PH} {r : Res} {h' : PH} {x y : Int32} (hd : cd M pc = some (.idiv, 1)) (hne : ¬ y = 0) (k : Run g M d (pc + 1) ls (.int (x / y) :: rest) h r h') : Run g M d pc ls (.int y :: .int x :: rest) h r h' := by
  refine ⟨k.1, ?_⟩
  intro p e R s m args below meth c QQ n0 s0 C hR RO ad H lsA locs cells slots S
  refine lv_idiv C.1 C.2.1 (C.2.2.1.dec hd) hne ?_
  exact k.2 p e R s m args below meth c QQ n0 s0 C hR RO ad H lsA locs cells slots ⟨S.1, ⟨trivial, S.2.1.2.2⟩, S.2.2⟩
theorem r_irem {g : GT} {M : PM} {d pc : Nat} {ls : List (Nat × Value)} {rest : List Value} {h : PH} {r : Res} {h' : PH} {x y : Int32} (hd : cd M pc = some (.irem, 1)) (hne : ¬ y = 0) (k : Run g M d (pc + 1) ls (.int (x - x / y * y) :: rest) h r h') : Run g M d pc ls (.int y :: .int x :: rest) h r h' := by
  refine ⟨k.1, ?_⟩
  intro p e R s m args below meth c QQ n0 s0 C hR RO ad H lsA locs cells slots S
  refine lv_irem C.1 C.2.1 (C.2.2.1.dec hd) hne ?_
  exact k.2 p e R s m args below meth c QQ n0 s0 C hR RO ad H lsA locs cells slots ⟨S.1, ⟨trivial, S.2.1.2.2⟩, S.2.2⟩
theorem r_ineg {g : GT} {M : PM} {d pc : Nat} {ls : List (Nat × Value)} {rest : List Value} {h : PH} {r : Res} {h' : PH} {x : Int32} (hd : cd M pc = some (.ineg, 1))  (k : Run g M d (pc + 1) ls (.int (-x) :: rest) h r h') : Run g M d pc ls (.int x :: rest) h r h' := by
  refine ⟨k.1, ?_⟩
  intro p e R s m args below meth c QQ n0 s0 C hR RO ad H lsA locs cells slots S
  refine lv_ineg C.1 C.2.1 (C.2.2.1.dec hd)  ?_
  exact k.2 p e R s m args below meth c QQ n0 s0 C hR RO ad H lsA locs cells slots ⟨S.1, ⟨trivial, S.2.1.2⟩, S.2.2⟩
theorem r_ladd {g : GT} {M : PM} {d pc : Nat} {ls : List (Nat × Value)} {rest : List Value} {h : PH} {r : Res} {h' : PH} {x y : Int64} (hd : cd M pc = some (.ladd, 1))  (k : Run g M d (pc + 1) ls (.long (x + y) :: rest) h r h') : Run g M d pc ls (.long y :: .long x :: rest) h r h' := by
  refine ⟨k.1, ?_⟩
  intro p e R s m args below meth c QQ n0 s0 C hR RO ad H lsA locs cells slots S
  refine lv_ladd C.1 C.2.1 (C.2.2.1.dec hd)  ?_
  exact k.2 p e R s m args below meth c QQ n0 s0 C hR RO ad H lsA locs cells slots ⟨S.1, ⟨trivial, S.2.1.2.2⟩, S.2.2⟩
theorem r_lsub {g : GT} {M : PM} {d pc : Nat} {ls : List (Nat × Value)} {rest : List Value} {h : PH} {r : Res} {h' : PH} {x y : Int64} (hd : cd M pc = some (.lsub, 1))  (k : Run g M d (pc + 1) ls (.long (x - y) :: rest) h r h') : Run g M d pc ls (.long y :: .long x :: rest) h r h' := by
  refine ⟨k.1, ?_⟩
  intro p e R s m args below meth c QQ n0 s0 C hR RO ad H lsA locs cells slots S
  refine lv_lsub C.1 C.2.1 (C.2.2.1.dec hd)  ?_
  exact k.2 p e R s m args below meth c QQ n0 s0 C hR RO ad H lsA locs cells slots ⟨S.1, ⟨trivial, S.2.1.2.2⟩, S.2.2⟩
theorem r_lmul {g : GT} {M : PM} {d pc : Nat} {ls : List (Nat × Value)} {rest : List Value} {h : PH} {r : Res} {h' : PH} {x y : Int64} (hd : cd M pc = some (.lmul, 1))  (k : Run g M d (pc + 1) ls (.long (x * y) :: rest) h r h') : Run g M d pc ls (.long y :: .long x :: rest) h r h' := by
  refine ⟨k.1, ?_⟩
  intro p e R s m args below meth c QQ n0 s0 C hR RO ad H lsA locs cells slots S
  refine lv_lmul C.1 C.2.1 (C.2.2.1.dec hd)  ?_
  exact k.2 p e R s m args below meth c QQ n0 s0 C hR RO ad H lsA locs cells slots ⟨S.1, ⟨trivial, S.2.1.2.2⟩, S.2.2⟩
theorem r_land {g : GT} {M : PM} {d pc : Nat} {ls : List (Nat × Value)} {rest : List Value} {h : PH} {r : Res} {h' : PH} {x y : Int64} (hd : cd M pc = some (.land, 1))  (k : Run g M d (pc + 1) ls (.long (x &&& y) :: rest) h r h') : Run g M d pc ls (.long y :: .long x :: rest) h r h' := by
  refine ⟨k.1, ?_⟩
  intro p e R s m args below meth c QQ n0 s0 C hR RO ad H lsA locs cells slots S
  refine lv_land C.1 C.2.1 (C.2.2.1.dec hd)  ?_
  exact k.2 p e R s m args below meth c QQ n0 s0 C hR RO ad H lsA locs cells slots ⟨S.1, ⟨trivial, S.2.1.2.2⟩, S.2.2⟩
theorem r_lor {g : GT} {M : PM} {d pc : Nat} {ls : List (Nat × Value)} {rest : List Value} {h : PH} {r : Res} {h' : PH} {x y : Int64} (hd : cd M pc = some (.lor, 1))  (k : Run g M d (pc + 1) ls (.long (x ||| y) :: rest) h r h') : Run g M d pc ls (.long y :: .long x :: rest) h r h' := by
  refine ⟨k.1, ?_⟩
  intro p e R s m args below meth c QQ n0 s0 C hR RO ad H lsA locs cells slots S
  refine lv_lor C.1 C.2.1 (C.2.2.1.dec hd)  ?_
  exact k.2 p e R s m args below meth c QQ n0 s0 C hR RO ad H lsA locs cells slots ⟨S.1, ⟨trivial, S.2.1.2.2⟩, S.2.2⟩
theorem r_lxor {g : GT} {M : PM} {d pc : Nat} {ls : List (Nat × Value)} {rest : List Value} {h : PH} {r : Res} {h' : PH} {x y : Int64} (hd : cd M pc = some (.lxor, 1))  (k : Run g M d (pc + 1) ls (.long (x ^^^ y) :: rest) h r h') : Run g M d pc ls (.long y :: .long x :: rest) h r h' := by
  refine ⟨k.1, ?_⟩
  intro p e R s m args below meth c QQ n0 s0 C hR RO ad H lsA locs cells slots S
  refine lv_lxor C.1 C.2.1 (C.2.2.1.dec hd)  ?_
  exact k.2 p e R s m args below meth c QQ n0 s0 C hR RO ad H lsA locs cells slots ⟨S.1, ⟨trivial, S.2.1.2.2⟩, S.2.2⟩
theorem r_ldiv {g : GT} {M : PM} {d pc : Nat} {ls : List (Nat × Value)} {rest : List Value} {h : PH} {r : Res} {h' : PH} {x y : Int64} (hd : cd M pc = some (.ldiv, 1)) (hne : ¬ y = 0) (k : Run g M d (pc + 1) ls (.long (x / y) :: rest) h r h') : Run g M d pc ls (.long y :: .long x :: rest) h r h' := by
  refine ⟨k.1, ?_⟩
  intro p e R s m args below meth c QQ n0 s0 C hR RO ad H lsA locs cells slots S
  refine lv_ldiv C.1 C.2.1 (C.2.2.1.dec hd) hne ?_
  exact k.2 p e R s m args below meth c QQ n0 s0 C hR RO ad H lsA locs cells slots ⟨S.1, ⟨trivial, S.2.1.2.2⟩, S.2.2⟩
theorem r_lrem {g : GT} {M : PM} {d pc : Nat} {ls : List (Nat × Value)} {rest : List Value} {h : PH} {r : Res} {h' : PH} {x y : Int64} (hd : cd M pc = some (.lrem, 1)) (hne : ¬ y = 0) (k : Run g M d (pc + 1) ls (.long (x - x / y * y) :: rest) h r h') : Run g M d pc ls (.long y :: .long x :: rest) h r h' := by
  refine ⟨k.1, ?_⟩
  intro p e R s m args below meth c QQ n0 s0 C hR RO ad H lsA locs cells slots S
  refine lv_lrem C.1 C.2.1 (C.2.2.1.dec hd) hne ?_
  exact k.2 p e R s m args below meth c QQ n0 s0 C hR RO ad H lsA locs cells slots ⟨S.1, ⟨trivial, S.2.1.2.2⟩, S.2.2⟩
theorem r_i2l {g : GT} {M : PM} {d pc : Nat} {ls : List (Nat × Value)} {rest : List Value} {h : PH} {r : Res} {h' : PH} {x : Int32} (hd : cd M pc = some (.i2l, 1))  (k : Run g M d (pc + 1) ls (.long x.toInt64 :: rest) h r h') : Run g M d pc ls (.int x :: rest) h r h' := by
  refine ⟨k.1, ?_⟩
  intro p e R s m args below meth c QQ n0 s0 C hR RO ad H lsA locs cells slots S
  refine lv_i2l C.1 C.2.1 (C.2.2.1.dec hd) rfl ?_
  exact k.2 p e R s m args below meth c QQ n0 s0 C hR RO ad H lsA locs cells slots ⟨S.1, ⟨trivial, S.2.1.2⟩, S.2.2⟩
theorem r_l2i {g : GT} {M : PM} {d pc : Nat} {ls : List (Nat × Value)} {rest : List Value} {h : PH} {r : Res} {h' : PH} {x : Int64} (hd : cd M pc = some (.l2i, 1))  (k : Run g M d (pc + 1) ls (.int x.toInt32 :: rest) h r h') : Run g M d pc ls (.long x :: rest) h r h' := by
  refine ⟨k.1, ?_⟩
  intro p e R s m args below meth c QQ n0 s0 C hR RO ad H lsA locs cells slots S
  refine lv_l2i C.1 C.2.1 (C.2.2.1.dec hd) rfl ?_
  exact k.2 p e R s m args below meth c QQ n0 s0 C hR RO ad H lsA locs cells slots ⟨S.1, ⟨trivial, S.2.1.2⟩, S.2.2⟩
theorem r_i2b {g : GT} {M : PM} {d pc : Nat} {ls : List (Nat × Value)} {rest : List Value} {h : PH} {r : Res} {h' : PH} {x : Int32} (hd : cd M pc = some (.i2b, 1))  (k : Run g M d (pc + 1) ls (.int x.toInt8.toInt32 :: rest) h r h') : Run g M d pc ls (.int x :: rest) h r h' := by
  refine ⟨k.1, ?_⟩
  intro p e R s m args below meth c QQ n0 s0 C hR RO ad H lsA locs cells slots S
  refine lv_i2b C.1 C.2.1 (C.2.2.1.dec hd) rfl ?_
  exact k.2 p e R s m args below meth c QQ n0 s0 C hR RO ad H lsA locs cells slots ⟨S.1, ⟨trivial, S.2.1.2⟩, S.2.2⟩
theorem r_i2c {g : GT} {M : PM} {d pc : Nat} {ls : List (Nat × Value)} {rest : List Value} {h : PH} {r : Res} {h' : PH} {x : Int32} (hd : cd M pc = some (.i2c, 1))  (k : Run g M d (pc + 1) ls (.int (x.toUInt32 % 65536).toInt32 :: rest) h r h') : Run g M d pc ls (.int x :: rest) h r h' := by
  refine ⟨k.1, ?_⟩
  intro p e R s m args below meth c QQ n0 s0 C hR RO ad H lsA locs cells slots S
  refine lv_i2c C.1 C.2.1 (C.2.2.1.dec hd) rfl ?_
  exact k.2 p e R s m args below meth c QQ n0 s0 C hR RO ad H lsA locs cells slots ⟨S.1, ⟨trivial, S.2.1.2⟩, S.2.2⟩
theorem r_iushr {g : GT} {M : PM} {d pc : Nat} {ls : List (Nat × Value)} {rest : List Value} {h : PH} {r : Res} {h' : PH} {x y : Int32} (hd : cd M pc = some (.iushr, 1))  (k : Run g M d (pc + 1) ls (.int (x.toUInt32 >>> (y.toUInt32 &&& Int32.toUInt32 31)).toInt32 :: rest) h r h') : Run g M d pc ls (.int y :: .int x :: rest) h r h' := by
  refine ⟨k.1, ?_⟩
  intro p e R s m args below meth c QQ n0 s0 C hR RO ad H lsA locs cells slots S
  refine lv_iushr C.1 C.2.1 (C.2.2.1.dec hd) rfl ?_
  exact k.2 p e R s m args below meth c QQ n0 s0 C hR RO ad H lsA locs cells slots ⟨S.1, ⟨trivial, S.2.1.2.2⟩, S.2.2⟩
theorem r_lushr {g : GT} {M : PM} {d pc : Nat} {ls : List (Nat × Value)} {rest : List Value} {h : PH} {r : Res} {h' : PH} {x : Int64} {y : Int32} (hd : cd M pc = some (.lushr, 1))  (k : Run g M d (pc + 1) ls (.long (x.toUInt64 >>> (y.toInt64.toUInt64 &&& Int64.toUInt64 63)).toInt64 :: rest) h r h') : Run g M d pc ls (.int y :: .long x :: rest) h r h' := by
  refine ⟨k.1, ?_⟩
  intro p e R s m args below meth c QQ n0 s0 C hR RO ad H lsA locs cells slots S
  refine lv_lushr C.1 C.2.1 (C.2.2.1.dec hd) rfl ?_
  exact k.2 p e R s m args below meth c QQ n0 s0 C hR RO ad H lsA locs cells slots ⟨S.1, ⟨trivial, S.2.1.2.2⟩, S.2.2⟩
theorem r_lshl {g : GT} {M : PM} {d pc : Nat} {ls : List (Nat × Value)} {rest : List Value} {h : PH} {r : Res} {h' : PH} {x : Int64} {y : Int32} (hd : cd M pc = some (.lshl, 1))  (k : Run g M d (pc + 1) ls (.long (x <<< (y.toInt64 &&& 63)) :: rest) h r h') : Run g M d pc ls (.int y :: .long x :: rest) h r h' := by
  refine ⟨k.1, ?_⟩
  intro p e R s m args below meth c QQ n0 s0 C hR RO ad H lsA locs cells slots S
  refine lv_lshl C.1 C.2.1 (C.2.2.1.dec hd) rfl ?_
  exact k.2 p e R s m args below meth c QQ n0 s0 C hR RO ad H lsA locs cells slots ⟨S.1, ⟨trivial, S.2.1.2.2⟩, S.2.2⟩
theorem r_lshr {g : GT} {M : PM} {d pc : Nat} {ls : List (Nat × Value)} {rest : List Value} {h : PH} {r : Res} {h' : PH} {x : Int64} {y : Int32} (hd : cd M pc = some (.lshr, 1))  (k : Run g M d (pc + 1) ls (.long (x >>> (y.toInt64 &&& 63)) :: rest) h r h') : Run g M d pc ls (.int y :: .long x :: rest) h r h' := by
  refine ⟨k.1, ?_⟩
  intro p e R s m args below meth c QQ n0 s0 C hR RO ad H lsA locs cells slots S
  refine lv_lshr C.1 C.2.1 (C.2.2.1.dec hd) rfl ?_
  exact k.2 p e R s m args below meth c QQ n0 s0 C hR RO ad H lsA locs cells slots ⟨S.1, ⟨trivial, S.2.1.2.2⟩, S.2.2⟩
theorem r_lcmp {g : GT} {M : PM} {d pc : Nat} {ls : List (Nat × Value)} {rest : List Value} {h : PH} {r : Res} {h' : PH} {x y : Int64} (hd : cd M pc = some (.lcmp, 1))  (k : Run g M d (pc + 1) ls (.int (lg_cmp x y) :: rest) h r h') : Run g M d pc ls (.long y :: .long x :: rest) h r h' := by
  refine ⟨k.1, ?_⟩
  intro p e R s m args below meth c QQ n0 s0 C hR RO ad H lsA locs cells slots S
  refine W.lcmp C.1 C.2.1 (C.2.2.1.dec hd)  ?_
  exact k.2 p e R s m args below meth c QQ n0 s0 C hR RO ad H lsA locs cells slots ⟨S.1, ⟨trivial, S.2.1.2.2⟩, S.2.2⟩
theorem r_dup {g : GT} {M : PM} {d pc : Nat} {ls : List (Nat × Value)} {rest : List Value} {h : PH} {r : Res} {h' : PH} {va : Value} (hd : cd M pc = some (.dup, 1)) (hva : va.category = 1) (k : Run g M d (pc + 1) ls (va :: va :: rest) h r h') : Run g M d pc ls (va :: rest) h r h' := by
  refine ⟨k.1, ?_⟩
  intro p e R s m args below meth c QQ n0 s0 C hR RO ad H lsA locs cells slots S
  refine lv_dup C.1 C.2.1 (C.2.2.1.dec hd) (by rw [sv_cat]; exact hva) ?_
  exact k.2 p e R s m args below meth c QQ n0 s0 C hR RO ad H lsA locs cells slots ⟨S.1, ⟨S.2.1.1, S.2.1.1, S.2.1.2⟩, S.2.2⟩
theorem r_pop {g : GT} {M : PM} {d pc : Nat} {ls : List (Nat × Value)} {rest : List Value} {h : PH} {r : Res} {h' : PH} {va : Value} (hd : cd M pc = some (.pop, 1)) (hva : va.category = 1) (k : Run g M d (pc + 1) ls (rest) h r h') : Run g M d pc ls (va :: rest) h r h' := by
  refine ⟨k.1, ?_⟩
  intro p e R s m args below meth c QQ n0 s0 C hR RO ad H lsA locs cells slots S
  refine lv_pop C.1 C.2.1 (C.2.2.1.dec hd) (by rw [sv_cat]; exact hva) ?_
  exact k.2 p e R s m args below meth c QQ n0 s0 C hR RO ad H lsA locs cells slots ⟨S.1, S.2.1.2, S.2.2⟩
theorem r_dup_x1 {g : GT} {M : PM} {d pc : Nat} {ls : List (Nat × Value)} {rest : List Value} {h : PH} {r : Res} {h' : PH} {va vb : Value} (hd : cd M pc = some (.dup_x1, 1)) (hva : va.category = 1) (hvb : vb.category = 1) (k : Run g M d (pc + 1) ls (va :: vb :: va :: rest) h r h') : Run g M d pc ls (va :: vb :: rest) h r h' := by
  refine ⟨k.1, ?_⟩
  intro p e R s m args below meth c QQ n0 s0 C hR RO ad H lsA locs cells slots S
  refine lv_dup_x1 C.1 C.2.1 (C.2.2.1.dec hd) (by rw [sv_cat]; exact hva) (by rw [sv_cat]; exact hvb) ?_
  exact k.2 p e R s m args below meth c QQ n0 s0 C hR RO ad H lsA locs cells slots ⟨S.1, ⟨S.2.1.1, S.2.1.2.1, S.2.1.1, S.2.1.2.2⟩, S.2.2⟩
theorem r_dup_x2 {g : GT} {M : PM} {d pc : Nat} {ls : List (Nat × Value)} {rest : List Value} {h : PH} {r : Res} {h' : PH} {va vb vd : Value} (hd : cd M pc = some (.dup_x2, 1)) (hva : va.category = 1) (hvb : vb.category = 1) (hvd : vd.category = 1) (k : Run g M d (pc + 1) ls (va :: vb :: vd :: va :: rest) h r h') : Run g M d pc ls (va :: vb :: vd :: rest) h r h' := by
  refine ⟨k.1, ?_⟩
  intro p e R s m args below meth c QQ n0 s0 C hR RO ad H lsA locs cells slots S
  refine lv_dup_x2 C.1 C.2.1 (C.2.2.1.dec hd) (by rw [sv_cat]; exact hva) (by rw [sv_cat]; exact hvb) (by rw [sv_cat]; exact hvd) ?_
  exact k.2 p e R s m args below meth c QQ n0 s0 C hR RO ad H lsA locs cells slots ⟨S.1, ⟨S.2.1.1, S.2.1.2.1, S.2.1.2.2.1, S.2.1.1, S.2.1.2.2.2⟩, S.2.2⟩
theorem r_dup2 {g : GT} {M : PM} {d pc : Nat} {ls : List (Nat × Value)} {rest : List Value} {h : PH} {r : Res} {h' : PH} {va vb : Value} (hd : cd M pc = some (.dup2, 1)) (hva : va.category = 1) (hvb : vb.category = 1) (k : Run g M d (pc + 1) ls (va :: vb :: va :: vb :: rest) h r h') : Run g M d pc ls (va :: vb :: rest) h r h' := by
  refine ⟨k.1, ?_⟩
  intro p e R s m args below meth c QQ n0 s0 C hR RO ad H lsA locs cells slots S
  refine lv_dup2_11 C.1 C.2.1 (C.2.2.1.dec hd) (by rw [sv_cat]; exact hva) (by rw [sv_cat]; exact hvb) ?_
  exact k.2 p e R s m args below meth c QQ n0 s0 C hR RO ad H lsA locs cells slots ⟨S.1, ⟨S.2.1.1, S.2.1.2.1, S.2.1.1, S.2.1.2.1, S.2.1.2.2⟩, S.2.2⟩
theorem r_dup2J {g : GT} {M : PM} {d pc : Nat} {ls : List (Nat × Value)} {rest : List Value} {h : PH} {r : Res} {h' : PH} {va : Value} (hd : cd M pc = some (.dup2, 1)) (hva : va.category = 2) (k : Run g M d (pc + 1) ls (va :: va :: rest) h r h') : Run g M d pc ls (va :: rest) h r h' := by
  refine ⟨k.1, ?_⟩
  intro p e R s m args below meth c QQ n0 s0 C hR RO ad H lsA locs cells slots S
  refine lv_dup2_2 C.1 C.2.1 (C.2.2.1.dec hd) (by rw [sv_cat]; exact hva) ?_
  exact k.2 p e R s m args below meth c QQ n0 s0 C hR RO ad H lsA locs cells slots ⟨S.1, ⟨S.2.1.1, S.2.1.1, S.2.1.2⟩, S.2.2⟩
theorem r_goto {g : GT} {M : PM} {d pc : Nat} {ls : List (Nat × Value)} {rest : List Value} {h : PH} {r : Res} {h' : PH} {off : Int} {tgt : Nat} (hd : cd M pc = some (.goto off, 3)) (ht : (pc : Int) + off = (tgt : Int)) (k : Run g M d tgt ls (rest) h r h') : Run g M d pc ls (rest) h r h' := by
  refine ⟨k.1, ?_⟩
  intro p e R s m args below meth c QQ n0 s0 C hR RO ad H lsA locs cells slots S
  refine lv_goto C.1 C.2.1 (C.2.2.1.dec hd) ht ?_
  exact k.2 p e R s m args below meth c QQ n0 s0 C hR RO ad H lsA locs cells slots ⟨S.1, S.2.1, S.2.2⟩
theorem r_if_eq {g : GT} {M : PM} {d pc : Nat} {ls : List (Nat × Value)} {rest : List Value} {h : PH} {r : Res} {h' : PH} {x : Int32} {off : Int} {tgt : Nat} (hd : cd M pc = some (.ifCond .eq off, 3)) (ht : (pc : Int) + off = (tgt : Int)) (kt : x = 0 → Run g M d tgt ls rest h r h') (kf : ¬ x = 0 → Run g M d (pc + 3) ls rest h r h') : Run g M d pc ls (.int x :: rest) h r h' := by
  refine ⟨(Decidable.em (x = 0)).elim (fun z => (kt z).1) (fun z => (kf z).1), ?_⟩
  intro p e R s m args below meth c QQ n0 s0 C hR RO ad H lsA locs cells slots S
  exact lv_if_eq C.1 C.2.1 (C.2.2.1.dec hd) ht (fun z => (kt z).2 p e R s m args below meth c QQ n0 s0 C hR RO ad H lsA locs cells slots ⟨S.1, S.2.1.2, S.2.2⟩) (fun z => (kf z).2 p e R s m args below meth c QQ n0 s0 C hR RO ad H lsA locs cells slots ⟨S.1, S.2.1.2, S.2.2⟩)
theorem r_icmp_eq {g : GT} {M : PM} {d pc : Nat} {ls : List (Nat × Value)} {rest : List Value} {h : PH} {r : Res} {h' : PH} {x y : Int32} {off : Int} {tgt : Nat} (hd : cd M pc = some (.if_icmp .eq off, 3)) (ht : (pc : Int) + off = (tgt : Int)) (kt : x = y → Run g M d tgt ls rest h r h') (kf : ¬ x = y → Run g M d (pc + 3) ls rest h r h') : Run g M d pc ls (.int y :: .int x :: rest) h r h' := by
  refine ⟨(Decidable.em (x = y)).elim (fun z => (kt z).1) (fun z => (kf z).1), ?_⟩
  intro p e R s m args below meth c QQ n0 s0 C hR RO ad H lsA locs cells slots S
  exact lv_icmp_eq C.1 C.2.1 (C.2.2.1.dec hd) ht (fun z => (kt z).2 p e R s m args below meth c QQ n0 s0 C hR RO ad H lsA locs cells slots ⟨S.1, S.2.1.2.2, S.2.2⟩) (fun z => (kf z).2 p e R s m args below meth c QQ n0 s0 C hR RO ad H lsA locs cells slots ⟨S.1, S.2.1.2.2, S.2.2⟩)
theorem r_if_ne {g : GT} {M : PM} {d pc : Nat} {ls : List (Nat × Value)} {rest : List Value} {h : PH} {r : Res} {h' : PH} {x : Int32} {off : Int} {tgt : Nat} (hd : cd M pc = some (.ifCond .ne off, 3)) (ht : (pc : Int) + off = (tgt : Int)) (kt : x = 0 → Run g M d (pc + 3) ls rest h r h') (kf : ¬ x = 0 → Run g M d tgt ls rest h r h') : Run g M d pc ls (.int x :: rest) h r h' := by
  refine ⟨(Decidable.em (x = 0)).elim (fun z => (kt z).1) (fun z => (kf z).1), ?_⟩
  intro p e R s m args below meth c QQ n0 s0 C hR RO ad H lsA locs cells slots S
  exact lv_if_ne C.1 C.2.1 (C.2.2.1.dec hd) ht (fun z => (kf z).2 p e R s m args below meth c QQ n0 s0 C hR RO ad H lsA locs cells slots ⟨S.1, S.2.1.2, S.2.2⟩) (fun z => (kt z).2 p e R s m args below meth c QQ n0 s0 C hR RO ad H lsA locs cells slots ⟨S.1, S.2.1.2, S.2.2⟩)
theorem r_icmp_ne {g : GT} {M : PM} {d pc : Nat} {ls : List (Nat × Value)} {rest : List Value} {h : PH} {r : Res} {h' : PH} {x y : Int32} {off : Int} {tgt : Nat} (hd : cd M pc = some (.if_icmp .ne off, 3)) (ht : (pc : Int) + off = (tgt : Int)) (kt : x = y → Run g M d (pc + 3) ls rest h r h') (kf : ¬ x = y → Run g M d tgt ls rest h r h') : Run g M d pc ls (.int y :: .int x :: rest) h r h' := by
  refine ⟨(Decidable.em (x = y)).elim (fun z => (kt z).1) (fun z => (kf z).1), ?_⟩
  intro p e R s m args below meth c QQ n0 s0 C hR RO ad H lsA locs cells slots S
  exact lv_icmp_ne C.1 C.2.1 (C.2.2.1.dec hd) ht (fun z => (kf z).2 p e R s m args below meth c QQ n0 s0 C hR RO ad H lsA locs cells slots ⟨S.1, S.2.1.2.2, S.2.2⟩) (fun z => (kt z).2 p e R s m args below meth c QQ n0 s0 C hR RO ad H lsA locs cells slots ⟨S.1, S.2.1.2.2, S.2.2⟩)
theorem r_if_lt {g : GT} {M : PM} {d pc : Nat} {ls : List (Nat × Value)} {rest : List Value} {h : PH} {r : Res} {h' : PH} {x : Int32} {off : Int} {tgt : Nat} (hd : cd M pc = some (.ifCond .lt off, 3)) (ht : (pc : Int) + off = (tgt : Int)) (kt : x < 0 → Run g M d tgt ls rest h r h') (kf : ¬ x < 0 → Run g M d (pc + 3) ls rest h r h') : Run g M d pc ls (.int x :: rest) h r h' := by
  refine ⟨(Decidable.em (x < 0)).elim (fun z => (kt z).1) (fun z => (kf z).1), ?_⟩
  intro p e R s m args below meth c QQ n0 s0 C hR RO ad H lsA locs cells slots S
  exact lv_if_lt C.1 C.2.1 (C.2.2.1.dec hd) ht (fun z => (kt z).2 p e R s m args below meth c QQ n0 s0 C hR RO ad H lsA locs cells slots ⟨S.1, S.2.1.2, S.2.2⟩) (fun z => (kf z).2 p e R s m args below meth c QQ n0 s0 C hR RO ad H lsA locs cells slots ⟨S.1, S.2.1.2, S.2.2⟩)
theorem r_icmp_lt {g : GT} {M : PM} {d pc : Nat} {ls : List (Nat × Value)} {rest : List Value} {h : PH} {r : Res} {h' : PH} {x y : Int32} {off : Int} {tgt : Nat} (hd : cd M pc = some (.if_icmp .lt off, 3)) (ht : (pc : Int) + off = (tgt : Int)) (kt : x < y → Run g M d tgt ls rest h r h') (kf : ¬ x < y → Run g M d (pc + 3) ls rest h r h') : Run g M d pc ls (.int y :: .int x :: rest) h r h' := by
  refine ⟨(Decidable.em (x < y)).elim (fun z => (kt z).1) (fun z => (kf z).1), ?_⟩
  intro p e R s m args below meth c QQ n0 s0 C hR RO ad H lsA locs cells slots S
  exact lv_icmp_lt C.1 C.2.1 (C.2.2.1.dec hd) ht (fun z => (kt z).2 p e R s m args below meth c QQ n0 s0 C hR RO ad H lsA locs cells slots ⟨S.1, S.2.1.2.2, S.2.2⟩) (fun z => (kf z).2 p e R s m args below meth c QQ n0 s0 C hR RO ad H lsA locs cells slots ⟨S.1, S.2.1.2.2, S.2.2⟩)
theorem r_if_ge {g : GT} {M : PM} {d pc : Nat} {ls : List (Nat × Value)} {rest : List Value} {h : PH} {r : Res} {h' : PH} {x : Int32} {off : Int} {tgt : Nat} (hd : cd M pc = some (.ifCond .ge off, 3)) (ht : (pc : Int) + off = (tgt : Int)) (kt : 0 ≤ x → Run g M d tgt ls rest h r h') (kf : ¬ 0 ≤ x → Run g M d (pc + 3) ls rest h r h') : Run g M d pc ls (.int x :: rest) h r h' := by
  refine ⟨(Decidable.em (0 ≤ x)).elim (fun z => (kt z).1) (fun z => (kf z).1), ?_⟩
  intro p e R s m args below meth c QQ n0 s0 C hR RO ad H lsA locs cells slots S
  exact lv_if_ge C.1 C.2.1 (C.2.2.1.dec hd) ht (fun z => (kt z).2 p e R s m args below meth c QQ n0 s0 C hR RO ad H lsA locs cells slots ⟨S.1, S.2.1.2, S.2.2⟩) (fun z => (kf z).2 p e R s m args below meth c QQ n0 s0 C hR RO ad H lsA locs cells slots ⟨S.1, S.2.1.2, S.2.2⟩)
theorem r_icmp_ge {g : GT} {M : PM} {d pc : Nat} {ls : List (Nat × Value)} {rest : List Value} {h : PH} {r : Res} {h' : PH} {x y : Int32} {off : Int} {tgt : Nat} (hd : cd M pc = some (.if_icmp .ge off, 3)) (ht : (pc : Int) + off = (tgt : Int)) (kt : y ≤ x → Run g M d tgt ls rest h r h') (kf : ¬ y ≤ x → Run g M d (pc + 3) ls rest h r h') : Run g M d pc ls (.int y :: .int x :: rest) h r h' := by
  refine ⟨(Decidable.em (y ≤ x)).elim (fun z => (kt z).1) (fun z => (kf z).1), ?_⟩
  intro p e R s m args below meth c QQ n0 s0 C hR RO ad H lsA locs cells slots S
  exact lv_icmp_ge C.1 C.2.1 (C.2.2.1.dec hd) ht (fun z => (kt z).2 p e R s m args below meth c QQ n0 s0 C hR RO ad H lsA locs cells slots ⟨S.1, S.2.1.2.2, S.2.2⟩) (fun z => (kf z).2 p e R s m args below meth c QQ n0 s0 C hR RO ad H lsA locs cells slots ⟨S.1, S.2.1.2.2, S.2.2⟩)
theorem r_if_gt {g : GT} {M : PM} {d pc : Nat} {ls : List (Nat × Value)} {rest : List Value} {h : PH} {r : Res} {h' : PH} {x : Int32} {off : Int} {tgt : Nat} (hd : cd M pc = some (.ifCond .gt off, 3)) (ht : (pc : Int) + off = (tgt : Int)) (kt : 0 < x → Run g M d tgt ls rest h r h') (kf : ¬ 0 < x → Run g M d (pc + 3) ls rest h r h') : Run g M d pc ls (.int x :: rest) h r h' := by
  refine ⟨(Decidable.em (0 < x)).elim (fun z => (kt z).1) (fun z => (kf z).1), ?_⟩
  intro p e R s m args below meth c QQ n0 s0 C hR RO ad H lsA locs cells slots S
  exact lv_if_gt C.1 C.2.1 (C.2.2.1.dec hd) ht (fun z => (kt z).2 p e R s m args below meth c QQ n0 s0 C hR RO ad H lsA locs cells slots ⟨S.1, S.2.1.2, S.2.2⟩) (fun z => (kf z).2 p e R s m args below meth c QQ n0 s0 C hR RO ad H lsA locs cells slots ⟨S.1, S.2.1.2, S.2.2⟩)
theorem r_icmp_gt {g : GT} {M : PM} {d pc : Nat} {ls : List (Nat × Value)} {rest : List Value} {h : PH} {r : Res} {h' : PH} {x y : Int32} {off : Int} {tgt : Nat} (hd : cd M pc = some (.if_icmp .gt off, 3)) (ht : (pc : Int) + off = (tgt : Int)) (kt : y < x → Run g M d tgt ls rest h r h') (kf : ¬ y < x → Run g M d (pc + 3) ls rest h r h') : Run g M d pc ls (.int y :: .int x :: rest) h r h' := by
  refine ⟨(Decidable.em (y < x)).elim (fun z => (kt z).1) (fun z => (kf z).1), ?_⟩
  intro p e R s m args below meth c QQ n0 s0 C hR RO ad H lsA locs cells slots S
  exact lv_icmp_gt C.1 C.2.1 (C.2.2.1.dec hd) ht (fun z => (kt z).2 p e R s m args below meth c QQ n0 s0 C hR RO ad H lsA locs cells slots ⟨S.1, S.2.1.2.2, S.2.2⟩) (fun z => (kf z).2 p e R s m args below meth c QQ n0 s0 C hR RO ad H lsA locs cells slots ⟨S.1, S.2.1.2.2, S.2.2⟩)
theorem r_if_le {g : GT} {M : PM} {d pc : Nat} {ls : List (Nat × Value)} {rest : List Value} {h : PH} {r : Res} {h' : PH} {x : Int32} {off : Int} {tgt : Nat} (hd : cd M pc = some (.ifCond .le off, 3)) (ht : (pc : Int) + off = (tgt : Int)) (kt : x ≤ 0 → Run g M d tgt ls rest h r h') (kf : ¬ x ≤ 0 → Run g M d (pc + 3) ls rest h r h') : Run g M d pc ls (.int x :: rest) h r h' := by
  refine ⟨(Decidable.em (x ≤ 0)).elim (fun z => (kt z).1) (fun z => (kf z).1), ?_⟩
  intro p e R s m args below meth c QQ n0 s0 C hR RO ad H lsA locs cells slots S
  exact lv_if_le C.1 C.2.1 (C.2.2.1.dec hd) ht (fun z => (kt z).2 p e R s m args below meth c QQ n0 s0 C hR RO ad H lsA locs cells slots ⟨S.1, S.2.1.2, S.2.2⟩) (fun z => (kf z).2 p e R s m args below meth c QQ n0 s0 C hR RO ad H lsA locs cells slots ⟨S.1, S.2.1.2, S.2.2⟩)
theorem r_icmp_le {g : GT} {M : PM} {d pc : Nat} {ls : List (Nat × Value)} {rest : List Value} {h : PH} {r : Res} {h' : PH} {x y : Int32} {off : Int} {tgt : Nat} (hd : cd M pc = some (.if_icmp .le off, 3)) (ht : (pc : Int) + off = (tgt : Int)) (kt : x ≤ y → Run g M d tgt ls rest h r h') (kf : ¬ x ≤ y → Run g M d (pc + 3) ls rest h r h') : Run g M d pc ls (.int y :: .int x :: rest) h r h' := by
  refine ⟨(Decidable.em (x ≤ y)).elim (fun z => (kt z).1) (fun z => (kf z).1), ?_⟩
  intro p e R s m args below meth c QQ n0 s0 C hR RO ad H lsA locs cells slots S
  exact lv_icmp_le C.1 C.2.1 (C.2.2.1.dec hd) ht (fun z => (kt z).2 p e R s m args below meth c QQ n0 s0 C hR RO ad H lsA locs cells slots ⟨S.1, S.2.1.2.2, S.2.2⟩) (fun z => (kf z).2 p e R s m args below meth c QQ n0 s0 C hR RO ad H lsA locs cells slots ⟨S.1, S.2.1.2.2, S.2.2⟩)
theorem r_ifnull {g : GT} {M : PM} {d pc : Nat} {ls : List (Nat × Value)} {rest : List Value} {h : PH} {r : Res} {h' : PH} {t : Option Nat} {off : Int} {tgt : Nat} (hd : cd M pc = some (.ifnull off, 3)) (ht : (pc : Int) + off = (tgt : Int)) (kt : t = none → Run g M d tgt ls rest h r h') (kf : ¬ t = none → Run g M d (pc + 3) ls rest h r h') : Run g M d pc ls (va_rf t :: rest) h r h' := by
  refine ⟨(Decidable.em (t = none)).elim (fun z => (kt z).1) (fun z => (kf z).1), ?_⟩
  intro p e R s m args below meth c QQ n0 s0 C hR RO ad H lsA locs cells slots S
  cases t with
  | none => exact lv_ifnullN C.1 C.2.1 (C.2.2.1.dec hd) ht ((kt rfl).2 p e R s m args below meth c QQ n0 s0 C hR RO ad H lsA locs cells slots ⟨S.1, S.2.1.2, S.2.2⟩)
  | some q => exact lv_ifnull C.1 C.2.1 (C.2.2.1.dec hd) ((kf (fun z => by cases z)).2 p e R s m args below meth c QQ n0 s0 C hR RO ad H lsA locs cells slots ⟨S.1, S.2.1.2, S.2.2⟩)
theorem r_ifnonnull {g : GT} {M : PM} {d pc : Nat} {ls : List (Nat × Value)} {rest : List Value} {h : PH} {r : Res} {h' : PH} {t : Option Nat} {off : Int} {tgt : Nat} (hd : cd M pc = some (.ifnonnull off, 3)) (ht : (pc : Int) + off = (tgt : Int)) (kt : t = none → Run g M d (pc + 3) ls rest h r h') (kf : ¬ t = none → Run g M d tgt ls rest h r h') : Run g M d pc ls (va_rf t :: rest) h r h' := by
  refine ⟨(Decidable.em (t = none)).elim (fun z => (kt z).1) (fun z => (kf z).1), ?_⟩
  intro p e R s m args below meth c QQ n0 s0 C hR RO ad H lsA locs cells slots S
  cases t with
  | none => exact lv_ifnonnullN C.1 C.2.1 (C.2.2.1.dec hd) ((kt rfl).2 p e R s m args below meth c QQ n0 s0 C hR RO ad H lsA locs cells slots ⟨S.1, S.2.1.2, S.2.2⟩)
  | some q => exact lv_ifnonnull C.1 C.2.1 (C.2.2.1.dec hd) ht ((kf (fun z => by cases z)).2 p e R s m args below meth c QQ n0 s0 C hR RO ad H lsA locs cells slots ⟨S.1, S.2.1.2, S.2.2⟩)
theorem r_tabIn {g : GT} {M : PM} {d pc : Nat} {ls : List (Nat × Value)} {rest : List Value} {h : PH} {r : Res} {h' : PH} {dflt lo hi : Int} {offs : Array Int} {len : Nat} {x : Int32} {off : Int} {tgt : Nat} (i : Nat) (hd : cd M pc = some (.tableswitch dflt lo hi offs, len)) (h1 : ¬ (x.toInt < lo ∨ hi < x.toInt)) (hx : x.toInt - lo = (i : Int)) (ho : offs[i]? = some off) (ht : (pc : Int) + off = (tgt : Int)) (k : Run g M d tgt ls rest h r h') : Run g M d pc ls (.int x :: rest) h r h' := by
  refine ⟨k.1, ?_⟩
  intro p e R s m args below meth c QQ n0 s0 C hR RO ad H lsA locs cells slots S
  refine lv_tableIn C.1 C.2.1 (C.2.2.1.dec hd) (fun z => h1 (Or.inl z)) (fun z => h1 (Or.inr z)) (by rw [hx]; exact ho) ht ?_
  exact k.2 p e R s m args below meth c QQ n0 s0 C hR RO ad H lsA locs cells slots ⟨S.1, S.2.1.2, S.2.2⟩
theorem r_tabOut {g : GT} {M : PM} {d pc : Nat} {ls : List (Nat × Value)} {rest : List Value} {h : PH} {r : Res} {h' : PH} {dflt lo hi : Int} {offs : Array Int} {len : Nat} {x : Int32} {tgt : Nat} (hd : cd M pc = some (.tableswitch dflt lo hi offs, len)) (h1 : x.toInt < lo ∨ hi < x.toInt) (ht : (pc : Int) + dflt = (tgt : Int)) (k : Run g M d tgt ls rest h r h') : Run g M d pc ls (.int x :: rest) h r h' := by
  refine ⟨k.1, ?_⟩
  intro p e R s m args below meth c QQ n0 s0 C hR RO ad H lsA locs cells slots S
  refine lv_tableOut C.1 C.2.1 (C.2.2.1.dec hd) h1 ht ?_
  exact k.2 p e R s m args below meth c QQ n0 s0 C hR RO ad H lsA locs cells slots ⟨S.1, S.2.1.2, S.2.2⟩
theorem r_ldc {g : GT} {M : PM} {d pc : Nat} {ls : List (Nat × Value)} {rest : List Value} {h : PH} {r : Res} {h' : PH} {i : Nat} {v : Int32} (hd : cd M pc = some (.ldc i, 2)) (hw : Cond.constant (mY M).cls i v ∈ GW) (k : Run g M d (pc + 2) ls (.int v :: rest) h r h') : Run g M d pc ls (rest) h r h' := by
  refine ⟨k.1, ?_⟩
  intro p e R s m args below meth c QQ n0 s0 C hR RO ad H lsA locs cells slots S
  refine lv_ldc C.1 C.2.1 C.2.2.2.2.2.2.1 (C.2.2.2.2.2.2.2.2.1 _ hw) (C.2.2.1.dec hd)  ?_
  exact k.2 p e R s m args below meth c QQ n0 s0 C hR RO ad H lsA locs cells slots ⟨S.1, ⟨trivial, S.2.1⟩, S.2.2⟩
theorem r_ldcw {g : GT} {M : PM} {d pc : Nat} {ls : List (Nat × Value)} {rest : List Value} {h : PH} {r : Res} {h' : PH} {i : Nat} {v : Int32} (hd : cd M pc = some (.ldc_w i, 3)) (hw : Cond.constant (mY M).cls i v ∈ GW) (k : Run g M d (pc + 3) ls (.int v :: rest) h r h') : Run g M d pc ls (rest) h r h' := by
  refine ⟨k.1, ?_⟩
  intro p e R s m args below meth c QQ n0 s0 C hR RO ad H lsA locs cells slots S
  refine lv_ldcw C.1 C.2.1 C.2.2.2.2.2.2.1 (C.2.2.2.2.2.2.2.2.1 _ hw) (C.2.2.1.dec hd)  ?_
  exact k.2 p e R s m args below meth c QQ n0 s0 C hR RO ad H lsA locs cells slots ⟨S.1, ⟨trivial, S.2.1⟩, S.2.2⟩
theorem r_ldc2 {g : GT} {M : PM} {d pc : Nat} {ls : List (Nat × Value)} {rest : List Value} {h : PH} {r : Res} {h' : PH} {i : Nat} {v : Int64} (hd : cd M pc = some (.ldc2_w i, 3)) (hw : Cond.constantLong (mY M).cls i v ∈ GW) (k : Run g M d (pc + 3) ls (.long v :: rest) h r h') : Run g M d pc ls (rest) h r h' := by
  refine ⟨k.1, ?_⟩
  intro p e R s m args below meth c QQ n0 s0 C hR RO ad H lsA locs cells slots S
  refine lv_ldc2 C.1 C.2.1 C.2.2.2.2.2.2.1 (C.2.2.2.2.2.2.2.2.1 _ hw) (C.2.2.1.dec hd)  ?_
  exact k.2 p e R s m args below meth c QQ n0 s0 C hR RO ad H lsA locs cells slots ⟨S.1, ⟨trivial, S.2.1⟩, S.2.2⟩
theorem r_sub {g : GT} {M : PM} {d pc : Nat} {ls : List (Nat × Value)} {rest : List Value} {h : PH} {r : Res} {h' : PH} {ls2 : List (Nat × Value)} (hs : lSub ls ls2) (k : Run g M d pc ls2 rest h r h') : Run g M d pc ls rest h r h' := by
  refine ⟨k.1, ?_⟩
  intro p e R s m args below meth c QQ n0 s0 C hR RO ad H lsA locs cells slots S
  exact k.2 p e R s m args below meth c QQ n0 s0 C hR RO ad H lsA locs cells slots ⟨S.1, S.2.1, okP_sub S.2.2.1 hs, lv_subP S.2.2.2.1 hs, S.2.2.2.2⟩
theorem r_sb {g : GT} {M : PM} {d pc : Nat} {ls : List (Nat × Value)} {rest : List Value} {h : PH} {r : Res} {h' : PH} {ls2 : List (Nat × Value)} (k : Run g M d pc ls2 rest h r h') (hs : lSub ls ls2) : Run g M d pc ls rest h r h' := r_sub hs k
theorem r_ret {g : GT} {M : PM} {d pc : Nat} {ls : List (Nat × Value)} {st : List Value} {h : PH} {r : Res} {i : Instr} (hd : cd M pc = some (i, 1)) (hi : RetI M i st r) : Run g M d pc ls st h r h := by
  refine ⟨hLe.rf, ?_⟩
  intro p e R s m args below meth c QQ n0 s0 C hR RO ad H lsA locs cells slots S
  exact RO.1 pc i st ad H lsA locs cells slots (C.2.2.1.dec hd) hi ⟨S.1, S.2.1, trivial, ⟨S.2.2.2.1.1, S.2.2.2.1.2.1, fun q hq => by cases hq⟩, S.2.2.2.2⟩
