section CR
variable {g : GT} {M : PM} {d pc : Nat} {ls : List (Nat × Value)} {rest : List Value} {h : PH} {r : Res} {h' : PH}
theorem map_ext {ad ad' : Nat → Nat} {n : Nat} (ha : ∀ k, k < n → ad' k = ad k) {t : Option Nat} (h : ∀ r, t = some r → r < n) : t.map ad' = t.map ad := by
  cases t with
  | none => rfl
  | some r => show some _ = some _; rw [ha r (h r rfl)]
/-- a new cell -/
theorem Rep.new {ad : Nat → Nat} {H H1 : Heap} {k : Nat × Nat} {w : Nat} (R : Rep g ad h H) (z : H1.size = H.size + 1) (oq : ∀ q, q < H.size → H1[q]? = H[q]?) (hB : gB g ≤ H.size) (hk : kok k.1)
    (hc : CellR g (fun q => if q = hN h then H.size else ad q) (nw h k w) H1 (hN h)) : Rep g (fun q => if q = hN h then H.size else ad q) (nw h k w) H1 := by
  obtain ⟨r1, r2', r3, r4, r5, r6⟩ := R
  have hne : ∀ b, b < hN h → (if b = hN h then H.size else ad b) = ad b := fun b hb => if_neg (by omega)
  have hf : ∀ b, b < hN h → ∀ j, hI (nw h k w) b j = hI h b j ∧ hJ (nw h k w) b j = hJ h b j ∧ hZ (nw h k w) b j = hZ h b j ∧ hR (nw h k w) b j = hR h b j := fun b hb j => by
    have h0 : ¬ b = hN h := by omega
    exact ⟨by rw [hI_nw, if_neg h0], by rw [hJ_nw, if_neg h0], by rw [hZ_nw, if_neg h0], by rw [hR_nw, if_neg h0]⟩
  have hk0 : ∀ b, b < hN h → hK (nw h k w) b = hK h b := fun b hb => by rw [hK_nw, if_neg (by omega)]
  have hmap : ∀ b j, (hR h b j).map (fun q => if q = hN h then H.size else ad q) = (hR h b j).map ad := fun b j => map_ext (n := hN h) (fun q hq => hne q hq) (fun q hq => r5 b j q hq)
  refine ⟨fun b b1 b2 => ?_, fun b c b1 b2 c1 c2 he => ?_, fun a ha => ?_, by rw [hN_nw]; omega, fun b j q hb => ?_, ?_⟩
  · rw [hN_nw] at b2
    by_cases hb : b = hN h
    · subst hb
      refine ⟨by simp only [if_true]; exact hB, by simp only [if_true]; omega, by rw [hK_nw, if_pos rfl]; exact hk, hc⟩
    · have hlt : b < hN h := by omega
      obtain ⟨q1, q2, q3, q4⟩ := r1 b b1 hlt
      refine ⟨by simp only [hne b hlt]; exact q1, by simp only [hne b hlt]; omega, by rw [hk0 b hlt]; exact q3, ?_⟩
      refine ⟨fun ci rr z1 z2 => ?_, fun kd k1 k2 k3 => ?_⟩
      · rw [hk0 b hlt] at z1
        simp only [hne b hlt]
        refine ((q4.1 ci rr z1 z2).kept (oq _ q2)).to fun j _ => ?_
        have e := hf b hlt j
        exact (fval_eq e.1 e.2.1 e.2.2.1 (by rw [e.2.2.2]; exact hmap b j) _).symm
      · rw [hk0 b hlt] at k3 ⊢
        simp only [hne b hlt]
        rw [oq _ q2, q4.2 kd k1 k2 k3]
        congr 2
        funext j
        have e := hf b hlt j
        exact (acont_eq e.1 e.2.1 e.2.2.1 (by rw [e.2.2.2]; exact hmap b j) _).symm
  · rw [hN_nw] at b2 c2
    by_cases hb : b = hN h <;> by_cases hc' : c = hN h
    · omega
    · have hlt : c < hN h := by omega
      simp only [if_pos hb, hne c hlt] at he
      have := (r1 c c1 hlt).2.1
      omega
    · have hlt : b < hN h := by omega
      simp only [if_pos hc', hne b hlt] at he
      have := (r1 b b1 hlt).2.1
      omega
    · have l1 : b < hN h := by omega
      have l2 : c < hN h := by omega
      simp only [hne b l1, hne c l2] at he
      exact r2' b c b1 l1 c1 l2 he
  · simp only [hne a (by omega)]
    exact r3 a ha
  · rw [hN_nw]
    rw [hR_nw] at hb
    split at hb
    · cases hb
    · exact Nat.lt_succ_of_lt (r5 b j q hb)
  · obtain ⟨o0, o0', o1, o1', o1'', o2, o2', o3, o3', o3'', o4, o4', o5⟩ := r6
    have e := fun b (hb : b < 6) j => hf b (by omega) j
    refine ⟨by rw [hk0 0 (by omega)]; exact o0, fun j => by rw [(e 0 (by omega) j).1]; exact o0' j, by rw [hk0 1 (by omega)]; exact o1, by rw [(e 1 (by omega) 0).2.2.2]; exact o1', by rw [(e 1 (by omega) 1).1]; exact o1'', by rw [hk0 2 (by omega)]; exact o2, fun j => by rw [(e 2 (by omega) j).1]; exact o2' j,
      by rw [hk0 3 (by omega)]; exact o3, by rw [(e 3 (by omega) 0).2.2.2]; exact o3', by rw [(e 3 (by omega) 1).1]; exact o3'', by rw [hk0 4 (by omega)]; exact o4, fun j => by rw [(e 4 (by omega) j).1]; exact o4' j, by rw [hk0 5 (by omega)]; exact o5⟩
/-- behind a cell that was made -/
theorem St.new {n0 : NA} {s0 : Nat} {st : List Value} {ad : Nat → Nat} {s : State} {H H1 : Heap} {lsA : Array Slot} {locs : List Loc} {cells slots : Nat} {k : Nat × Nat} {w : Nat} {st2 : List Value} (O : Old g s s.heap) (S : St g M n0 s0 h ls st ad s H lsA locs cells slots) (z : H1.size = H.size + 1) (oq : ∀ q, q < H.size → H1[q]? = H[q]?) (hk : kok k.1) (ho : okL (hN h) st2)
    (hc : CellR g (fun q => if q = hN h then H.size else ad q) (nw h k w) H1 (hN h)) : St g M n0 s0 (nw h k w) ls (va_rf (some (hN h)) :: st2) (fun q => if q = hN h then H.size else ad q) s H1 lsA locs (cells + 1) (slots + w) ∧ sL (fun q => if q = hN h then H.size else ad q) st2 = sL ad st2 := by
  have hext : ∀ q, q < hN h → (if q = hN h then H.size else ad q) = ad q := fun q hq => if_neg (by omega)
  obtain ⟨S1, S2, S3, S4, S5, S6, ⟨S7, S7'⟩, S8, S9⟩ := S
  have hB : gB g ≤ H.size := Nat.le_trans O.2.1.2.2 S5.1
  refine ⟨⟨S1.new z oq hB hk hc, ⟨by show hN h < hN h + 1; omega, okL_mono (by rw [hN_nw]; omega) ho⟩, okP_mono (by rw [hN_nw]; omega) S3, by rw [sP_ext hext S3]; exact S4, ⟨by have := S5.1; omega, fun q q1 q2 => by rw [oq q (Nat.lt_of_lt_of_le q1 S5.1)]; exact S5.2.1 q q1 q2, S5.2.2⟩, ⟨by rw [hN_nw]; have := S6.1; omega, fun q hq => (hext q (Nat.lt_of_lt_of_le hq S6.1)).trans (S6.2 q hq)⟩, ⟨by rw [hS_nw]; omega, S7'⟩, by rw [hN_nw, hE_nw]; have := S6.1; omega, by rw [hS_nw]; omega⟩, sL_ext hext ho⟩
theorem r_new {idx ci N : Nat} {Cn : String} {T : u_T} (hd : cd M pc = some (.new idx, 3)) (hc : vwCl[ci]? = some (Cn, T, N)) (hl : Cond.classLink (mY M).cls idx Cn ∈ GW) (hi : Cond.instantiable Cn N ∈ GW) (hini : Cond.initialized Cn ∈ GW)
    {h2 : PH} (he : h2 = nw h (ci, 0) N) (kk : Run g M d (pc + 3) ls (va_rf (some (hN h)) :: rest) h2 r h') : Run g M d pc ls rest h r h' := by
  subst he
  obtain ⟨z1, z2, z3⟩ := kk.1
  rw [hN_nw] at z1
  rw [hS_nw] at z2
  rw [hE_nw] at z3
  refine ⟨⟨by omega, by omega, z3⟩, ?_⟩
  intro p e R s m args below meth c QQ n0 s0 C hR' RO ad H lsA locs cells slots S
  obtain ⟨hin, htyp, -⟩ := GWcls ci _ _ _ hc
  have hts := C.2.2.2.2.2.2.2.2.1
  have hKn := C.2.2.2.2.2.2.2.2.2.2.1.1 ci _ hc
  obtain ⟨⟨S6, S6'⟩, ⟨S7, S7'⟩, S8, S9⟩ := S.2.2.2.2.2
  obtain ⟨hR1, hR2, hR3, hR4⟩ := hR'
  refine W.newcK C.1 C.2.1 C.2.2.2.2.2.2.1 (hts _ hl) (hts _ hi) (hts _ hini) rfl (C.2.2.1.dec hd) (by omega) (by omega) hKn.2.1 rfl fun H1 kC hkC e1 zz oq => ?_
  have hob := u_born (tyTab ci) hts hin hKn hkC e1 htyp
  have hlt := ci_lt hc
  have hcell : CellR g (fun q => if q = hN h then H.size else ad q) (nw h (ci, 0) N) H1 (hN h) := by
    refine ⟨fun ci' rr q1 q2 => ?_, fun kd k1 k2 k3 => ?_⟩
    · rw [hK_nw, if_pos rfl] at q1
      subst q1
      cases q2.symm.trans hc
      simp only [if_true]
      refine hob.to fun j _ => ?_
      cases tyTab ci j <;> simp only [fval, defaultValue, hI_nw, hJ_nw, hZ_nw, hR_nw, if_true, bI] <;> rfl
    · rw [hK_nw, if_pos rfl] at k3
      simp only at k3
      omega
  obtain ⟨S', eL⟩ := St.new (k := (ci, 0)) (w := N) C.2.2.2.2.2.2.2.2.2.2.2 S zz oq (Or.inl (by show ci < 26; omega)) S.2.1 hcell
  have k3 := kk.2 p e R s m args below meth c QQ n0 s0 C ⟨hR1, hR2, hR3, hR4⟩ RO _ H1 lsA locs (cells + 1) (slots + N) S'
  rw [sL, eL] at k3
  simp only [va_rf, sv, if_true] at k3
  exact k3
/-- a length -/
def nb (n : Int32) : Bool := decide (¬ n < 0 ∧ n.toNatClampNeg ≤ 1000000)
theorem r_newa {kd : Nat} {at' : ArrayType} {n : Int32} (hd : cd M pc = some (.newarray at', 2)) (k1 : 20 ≤ kd) (k2 : kd < 24) (hat : newarray.typeOf at' = aty kd) (hw : Cond.arrayClass (newarray.typeOf at') ∈ GW) (hn : nb n = true)
    {h2 : PH} (he : h2 = nw h (kd, ix n) (ix n)) (kk : Run g M d (pc + 2) ls (va_rf (some (hN h)) :: rest) h2 r h') : Run g M d pc ls (.int n :: rest) h r h' := by
  subst he
  obtain ⟨z1, z2, z3⟩ := kk.1
  rw [hN_nw] at z1
  rw [hS_nw] at z2
  rw [hE_nw] at z3
  refine ⟨⟨by omega, by omega, z3⟩, ?_⟩
  intro p e R s m args below meth c QQ n0 s0 C hR' RO ad H lsA locs cells slots S
  have hts := C.2.2.2.2.2.2.2.2.1
  obtain ⟨⟨S6, S6'⟩, ⟨S7, S7'⟩, S8, S9⟩ := S.2.2.2.2.2
  obtain ⟨hR1, hR2, hR3, hR4⟩ := hR'
  obtain ⟨n1, n2⟩ := of_decide_eq_true hn
  have hbytes : ix n * componentBytes (newarray.typeOf at') ≤ 536870912 := by
    have hcb : componentBytes (newarray.typeOf at') ≤ 8 := by cases at' <;> decide
    have := Nat.mul_le_mul n2 hcb
    exact Nat.le_trans this (by omega)
  have hra := (C.2.2.2.2.2.2.2.2.2.2.1.2 _ _ (tys_at g k1 (by omega))).2
  refine va_newaK C.1 C.2.1 (hts _ hw) rfl (C.2.2.1.dec hd) rfl n1 (N := ix n) rfl hbytes (by omega) (by omega) rfl fun H1 cA e1 zz oq hAr hNm => ?_
  have hcA : cA = gA g kd := by
    rw [hat] at hNm
    have hk4 : kd = 20 ∨ kd = 21 ∨ kd = 22 ∨ kd = 23 := by omega
    rcases hk4 with rfl | rfl | rfl | rfl <;> exact Option.some.inj (hNm.symm.trans hra)
  subst hcA
  have hcell : CellR g (fun q => if q = hN h then H.size else ad q) (nw h (kd, ix n) (ix n)) H1 (hN h) := by
    refine ⟨fun ci' rr q1 q2 => ?_, fun kd' k1' k2' k3 => ?_⟩
    · rw [hK_nw, if_pos rfl] at q1
      have := ci_lt q2
      simp only at q1
      omega
    · rw [hK_nw, if_pos rfl] at k3
      simp only at k3
      subst k3
      simp only [if_true]
      rw [e1, hK_nw, if_pos rfl]
      congr 2
      funext j
      rw [hat]
      have hk4 : kd = 20 ∨ kd = 21 ∨ kd = 22 ∨ kd = 23 := by omega
      rcases hk4 with rfl | rfl | rfl | rfl <;> simp only [acont, aty, defaultValue, hI_nw, hJ_nw, hZ_nw, if_true, bI]
  obtain ⟨S', eL⟩ := St.new (k := (kd, ix n)) (w := ix n) C.2.2.2.2.2.2.2.2.2.2.2 S zz oq (Or.inl (by show kd < 26; omega)) S.2.1.2 hcell
  have k3 := kk.2 p e R s m args below meth c QQ n0 s0 C ⟨hR1, hR2, hR3, hR4⟩ RO _ H1 lsA locs (cells + 1) (slots + ix n) S'
  rw [sL, eL] at k3
  simp only [va_rf, sv, if_true] at k3
  exact k3
theorem r_anew {kd idx : Nat} {Cn : String} {n : Int32} (hd : cd M pc = some (.anewarray idx, 3)) (k1 : 24 ≤ kd) (k2 : kd < 26) (hat : aty kd = .object Cn) (hw : Cond.classLink (mY M).cls idx Cn ∈ GW) (hov : Cn = RX3 ∨ Cn = RX1) (hn : nb n = true)
    {h2 : PH} (he : h2 = nw h (kd, ix n) (ix n)) (kk : Run g M d (pc + 3) ls (va_rf (some (hN h)) :: rest) h2 r h') : Run g M d pc ls (.int n :: rest) h r h' := by
  subst he
  obtain ⟨z1, z2, z3⟩ := kk.1
  rw [hN_nw] at z1
  rw [hS_nw] at z2
  rw [hE_nw] at z3
  refine ⟨⟨by omega, by omega, z3⟩, ?_⟩
  intro p e R s m args below meth c QQ n0 s0 C hR' RO ad H lsA locs cells slots S
  have hts := C.2.2.2.2.2.2.2.2.1
  obtain ⟨⟨S6, S6'⟩, ⟨S7, S7'⟩, S8, S9⟩ := S.2.2.2.2.2
  obtain ⟨hR1, hR2, hR3, hR4⟩ := hR'
  obtain ⟨n1, n2⟩ := of_decide_eq_true hn
  have hra := (C.2.2.2.2.2.2.2.2.2.2.1.2 _ _ (tys_at g (k := kd) (by omega) (by omega))).2
  have hov' : (Cond.arrayOver (.object Cn)).before args s = true := by
    have hA := C.2.2.2.2.2.2.2.2.2.2.2.2.2.2.2.2.2.2.2.2.2
    rcases hov with rfl | rfl
    · exact hA.1
    · exact hA.2
  refine W.anew C.1 C.2.1 C.2.2.2.2.2.2.1 (hts _ hw) hov' rfl (C.2.2.1.dec hd) rfl n1 (by show ix n * 4 ≤ _; have : ix n ≤ 1000000 := n2; omega) (by omega) (by show slots + ix n ≤ _; omega) fun cA kA comp e1 e2 e3 e4 => ?_
  have hcA : cA = gA g kd := by
    rw [hat] at hra
    obtain ⟨kA', comp', w1, w2, w3, w4⟩ := hra
    exact Option.some.inj (e1.symm.trans w4)
  subst hcA
  have hcell : CellR g (fun q => if q = hN h then H.size else ad q) (nw h (kd, ix n) (ix n)) (H.push { cls := gA g kd, slots := Array.replicate n.toNatClampNeg .null, vm := .none }) (hN h) := by
    refine ⟨fun ci' rr q1 q2 => ?_, fun kd' k1' k2' k3 => ?_⟩
    · rw [hK_nw, if_pos rfl] at q1
      have := ci_lt q2
      simp only at q1
      omega
    · rw [hK_nw, if_pos rfl] at k3
      simp only at k3
      subst k3
      simp only [if_true]
      rw [hK_nw, if_pos rfl, arrV_new]
      simp only [Array.getElem?_push_size]
      congr 2
      funext j
      have hk4 : kd = 24 ∨ kd = 25 := by omega
      rcases hk4 with rfl | rfl <;> simp only [acont, hR_nw, if_true, Option.map_none, va_rf]
  obtain ⟨S', eL⟩ := St.new (k := (kd, ix n)) (w := ix n) (H1 := H.push { cls := gA g kd, slots := Array.replicate n.toNatClampNeg .null, vm := .none }) C.2.2.2.2.2.2.2.2.2.2.2 S (by simp) (fun q hq => by rw [Array.getElem?_push, if_neg (Nat.ne_of_lt hq)]) (Or.inl (by show kd < 26; omega)) S.2.1.2 hcell
  have k3 := kk.2 p e R s m args below meth c QQ n0 s0 C ⟨hR1, hR2, hR3, hR4⟩ RO _ _ lsA locs (cells + 1) (slots + ix n) S'
  rw [sL, eL] at k3
  simp only [va_rf, sv, if_true] at k3
  exact k3
theorem r_objinit {idx : Nat} {t : Option Nat} {a : Nat} (hd : cd M pc = some (.invokespecial idx, 3)) (ht : t = some a) (hl : Cond.methodLink (mY M).cls idx Lib.objectInit ∈ GW) (h1 : Cond.instanceMethod Lib.objectInit ∈ GW) (h2 : Cond.code Lib.objectInit ⟨#[0xb1]⟩ 1 none ∈ GW) (hcat : (rest.map fun v => v.category).sum ≤ 8)
    (kk : Run g M (d + 1) (pc + 3) ls rest h r h') : Run g M (d + 1) pc ls (va_rf t :: rest) h r h' := by
  subst ht
  refine ⟨kk.1, ?_⟩
  intro p e R s m args below meth c QQ n0 s0 C hR' RO ad H lsA locs cells slots S
  have hts := C.2.2.2.2.2.2.2.2.1
  refine W.objInit C.1 C.2.1 C.2.2.2.2.2.2.1 (hts _ hl) (hts _ h1) (hts _ h2) rfl (S.2.2.2.1.1.trans C.2.2.2.2.2.1.symm) (a := ad a) (rest := sL ad rest) rfl (C.2.2.1.dec hd) (by have := hR'.1; omega) ?_ (kk.2 p e R s m args below meth c QQ n0 s0 C hR' RO ad H lsA locs cells slots ⟨S.1, S.2.1.2, S.2.2⟩)
  have h9 := lv_room (pc := pc) (ls := lsA) (rest := sL ad rest) (m := m) (st := sL ad rest) (by rw [sL_cat]; exact hcat)
  have := hR'.2.1
  show 2 * (F0 m pc lsA (.ref (ad a) :: sL ad rest)).monitorRoom + _ + 12 ≤ R.locals
  have h10 : 2 * (F0 m pc lsA (.ref (ad a) :: sL ad rest)).monitorRoom = 2 * (F0 m pc lsA (sL ad rest)).monitorRoom := rfl
  omega
/-! CALLS -/
def CtxU (g : GT) (U : State) (H : Heap) : Prop := (∀ w ∈ NWs, va_Nw w U) ∧ va_K (gC g, gF g) vwCl (tysOf g) U ∧ Old g U H
def rmOf (d : Nat) (h h' : PH) : Room := { frames := d, cells := (hN h' - hN h) + (hE h' - hE h), slots := hS h' - hS h, locals := 64 * d }
def preC (g : GT) (ad : Nat → Nat) (args : List Value) (h : PH) : Array Value → State → Prop := va_Pc (sL ad args) (fun U => CtxU g U U.heap ∧ Rep g ad h U.heap)
def okO (n : Nat) : Option Value → Prop
  | none => True
  | some v => okv n v
def postC' (g : GT) (ad : Nat → Nat) (h : PH) (v : Option Value) (h' : PH) : Array Value → State → Outcome → State → Prop := fun _ st o t =>
  ∃ ad' : Nat → Nat, o = .returned (v.map (sv ad')) ∧ (∀ k, k < hN h → ad' k = ad k) ∧ Rep g ad' h' t.heap ∧ okO (hN h') v ∧ va_F (AA g) st t
/-- the method M, called with these arguments on this heap, answers v and leaves h' -/
def Calls (g : GT) (d : Nat) (M : PM) (args : List Value) (h : PH) (v : Option Value) (h' : PH) : Prop :=
  hLe h h' ∧ ∀ ad : Nat → Nat, okL (hN h) args → Met (gl g) (mY M) (wsM M) (rmOf d h h') (preC g ad args h) (postC' g ad h v h') ((hN h' - hN h) + (hE h' - hE h)) (hS h' - hS h) (AA g)
theorem NW_tab : ∀ w ∈ NWs, w.onTables = true := by decide +kernel
theorem pre_blind {ad : Nat → Nat} {args : List Value} : FrameBlind (preC g ad args h) := by
  rintro a U f mk ⟨h1, ⟨h2, h3, h4⟩, h5⟩
  refine ⟨h1, ⟨fun w hw => va_Nw.same (u := U) (NW_tab w hw) rfl (h2 w hw), va_K.moved (u := U) (U := U.calling f mk a) (Vm.Alike.refl U.vm) h3, ?_⟩, h5⟩
  exact h4.warm (s := U) (U := U.calling f mk a) (State.WarmedH.refl U)
theorem pre_at {ad : Nat → Nat} {args : List Value} {n0 : NA} {s0 : Nat} {st : List Value} {p : Program} {s : State} {m : MethodId} {aa : Array Value} {meth : Method} {c : Code} {H : Heap} {lsA : Array Slot} {locs : List Loc} {cells slots : Nat} (C : Cx g M p s m aa meth c) (S : St g M n0 s0 h ls st ad s H lsA locs cells slots) : ∀ U : State, U.heap = H → s.WarmedH U.vm → preC g ad args h (sL ad args).toArray U := by
  intro U hU hW
  refine ⟨rfl, ⟨NWs_warm hW C.2.2.2.2.2.2.2.2.2.1, va_K.moved hW.alike C.2.2.2.2.2.2.2.2.2.2.1, ?_⟩, by rw [hU]; exact S.1⟩
  rw [hU]
  exact (C.2.2.2.2.2.2.2.2.2.2.2.at S.2.2.2.2.1).warm hW
theorem goodIn_wsM {M2 : PM} (hc : Cond.code (mY M2) (mB M2) (mL M2) (mR M2) ∈ GW) : GoodIn GW (wsM M2) := by
  intro w hw
  rcases List.mem_cons.mp hw with rfl | hw
  · exact ⟨hc, good_of_word (GW_good _ hc)⟩
  · exact ⟨hw, good_of_word (GW_good _ hw)⟩
theorem goodIn_cons {ws : List Cond} {w : Cond} (h : w ∈ GW) (k : GoodIn GW ws) : GoodIn GW (w :: ws) := by
  intro x hx
  rcases List.mem_cons.mp hx with rfl | hx
  · exact ⟨h, good_of_word (GW_good _ h)⟩
  · exact k x hx
/-- behind a call -/
theorem of_run {M2 : PM} {d2 : Nat} {n0 : NA} {s0 : Nat} {st0 : List Value} {a : Array Value} {v : Option Value} {h1 : PH} {p : Program} {e : Env} {R : Room} {s : State} {m : MethodId} {args : Array Value} {below : List Frame} {meth : Method} {c : Code} {QQ : State → Prop} {ad : Nat → Nat} {H : Heap} {lsA : Array Slot} {locs : List Loc} {cells slots : Nat} {stA : List Value}
    (kk : Run g M d (pc + 3) ls (v.toList ++ rest) h1 r h') (C : Cx g M p s m args meth c) (hR' : d ≤ R.frames ∧ 64 * d ≤ R.locals ∧ (hN h' - n0.1) + (hE h' - n0.2.2) ≤ R.cells ∧ hS h' - s0 ≤ R.slots) (RO : RetOK g M p e R s m args below meth c QQ n0 s0 r h')
    (S : St g M n0 s0 h ls st0 ad s H lsA locs cells slots) (hst : okL (hN h) rest) (hle : hLe h h1)
    (hr : va_Run p (gl g) e R s m args below meth c H locs cells slots ((hN h1 - hN h) + (hE h1 - hE h)) (hS h1 - hS h) (F0 m pc lsA stA) (sL ad rest) (postC' g ad h v h1 a) (AA g)) : W p (gl g) e R s m args below meth c H locs cells slots QQ (F0 m pc lsA stA) := by
  intro T hT X
  obtain ⟨v', st₀, t, T', L, h0, X', hL, e1, e2, ⟨ad', ho, hag, hRep, hok, hF⟩, st⟩ := hr T hT X
  have hv : v' = v.map (sv ad') := Outcome.returned.inj ho
  subst hv
  obtain ⟨S1, S2, S3, S4, S5, S6, ⟨S7, S7'⟩, S8, S9⟩ := S
  have hz := hF.1
  have hkeep := hF.2
  rw [h0] at hz hkeep
  have S' : St g M n0 s0 h1 ls (v.toList ++ rest) ad' s T'.heap lsA (locs ++ L) (cells + ((hN h1 - hN h) + (hE h1 - hE h))) (slots + (hS h1 - hS h)) := by
    refine ⟨by rw [e1]; exact hRep, okL_app.mpr ⟨?_, okL_mono hle.1 hst⟩, okP_mono hle.1 S3, by rw [sP_ext hag S3]; exact S4, ⟨Nat.le_trans S5.1 (by rw [e1]; exact hz), fun q q1 q2 => by rw [e1, hkeep q (Nat.lt_of_lt_of_le q1 S5.1) q2]; exact S5.2.1 q q1 q2, fun q hq => ?_⟩, ⟨by have := S6.1; have := hle.1; omega, fun q hq => (hag q (Nat.lt_of_lt_of_le hq S6.1)).trans (S6.2 q hq)⟩, ⟨by have := hle.2.1; omega, by have := hle.2.2; omega⟩, by have := S6.1; have := hle.1; have := hle.2.2; omega, by have := hle.2.1; omega⟩
    · cases v with
      | none => trivial
      | some v => exact ⟨hok, trivial⟩
    · rcases List.mem_append.mp hq with hh | hh
      · exact S5.2.2 q hh
      · exact hL q hh
  have k3 := kk.2 p e R s m args below meth c QQ n0 s0 C hR' RO ad' T'.heap lsA (locs ++ L) _ _ S'
  have eL : sL ad' (v.toList ++ rest) = (v.map (sv ad')).toList ++ sL ad rest := by
    rw [sL_app, sL_ext hag hst]
    cases v <;> rfl
  rw [eL] at k3
  obtain ⟨t2, a1, b1⟩ := k3 T' rfl X'
  exact ⟨t2, st t2 a1, b1⟩
def rcls (k : Nat) : Option String := if k = 28 then some "java/lang/String" else (vwCl[k]?).map (fun q => q.1)
theorem recv_at {n0 : NA} {s0 : Nat} {st : List Value} {p : Program} {s : State} {m : MethodId} {aa : Array Value} {meth : Method} {c : Code} {ad : Nat → Nat} {H : Heap} {lsA : Array Slot} {locs : List Loc} {cells slots : Nat} (C : Cx g M p s m aa meth c) (S : St g M n0 s0 h ls st ad s H lsA locs cells slots) {a : Nat} (ha : a < hN h) {Cn : String} (hc : rcls (hK h a).1 = some Cn) :
    ∃ cell : Cell, H[ad a]? = some cell ∧ cell.vm.isStatics = false ∧ s.vm.findClass Cn = some cell.cls := by
  unfold rcls at hc
  split at hc
  · next hk =>
    cases hc
    have hO := (C.2.2.2.2.2.2.2.2.2.2.2.at S.2.2.2.2.1).2.2.1
    have h6 : a < 6 := by
      rcases Nat.lt_or_ge a 6 with q | q
      · exact q
      · have := (S.1.1 a q ha).2.2.1
        rw [hk] at this
        rcases this with z | z <;> omega
    obtain ⟨-, -, -, o1, -, -, o2, -, o3, -, -, o4, -, o5⟩ := S.1.2.2.2.2
    have hz : a = 0 ∨ a = 1 ∨ a = 2 ∨ a = 3 ∨ a = 4 ∨ a = 5 := by omega
    have e := S.1.2.2.1 a h6
    rw [e]
    rcases hz with rfl | rfl | rfl | rfl | rfl | rfl
    · rw [S.1.2.2.2.2.2.1] at hk; simp at hk
    · obtain ⟨cell, q1, q2, q3, -⟩ := (hO.1 0 (by omega)).1
      exact ⟨cell, q1, q2, q3⟩
    · rw [o2] at hk; simp at hk
    · obtain ⟨cell, q1, q2, q3, -⟩ := (hO.1 1 (by omega)).1
      exact ⟨cell, q1, q2, q3⟩
    · rw [o4] at hk; simp at hk
    · rw [o5] at hk; simp at hk
  · obtain ⟨rr, hrr, rfl⟩ := Option.map_eq_some_iff.mp hc
    have hlt := ci_lt hrr
    have h6 := S.1.own (a := a) (by omega)
    obtain ⟨cell, q1, q2, q3, -⟩ := (S.1.1 a h6 ha).2.2.2.1 _ rr rfl hrr
    exact ⟨cell, q1, by rw [q3]; rfl, by rw [q2]; exact (C.2.2.2.2.2.2.2.2.2.2.1.1 _ rr hrr).2.1⟩
/-- what a method must be to be called -/
def PlainM (M2 : PM) (n : Nat) : Prop := (mY M2).cls ≠ "java/lang/invoke/MethodHandle" ∧ (mY M2).cls ≠ "java/lang/invoke/VarHandle" ∧ (parseMethodDescriptor (mY M2).desc).map (fun d => d.parameters.length) = some n ∧ mL M2 ≤ 30 ∧ Cond.code (mY M2) (mB M2) (mL M2) (mR M2) ∈ GW ∧ Cond.initialized (mY M2).cls ∈ GW
theorem r_callV {M2 : PM} {idx n a : Nat} {as : List Value} {st : List Value} {v : Option Value} {h1 : PH} (hd : cd M pc = some (.invokevirtual idx, 3)) (hp : PlainM M2 n) (hl : Cond.methodLink (mY M).cls idx (mY M2) ∈ GW) (hi : Cond.instanceMethod (mY M2) ∈ GW) (hs : Cond.selects (mY M2).cls (mY M2) (mY M2) ∈ GW)
    {t : Option Nat} (ht : t = some a) (hst : st = as.reverse ++ va_rf t :: rest) (hn : as.length = n) (hrc : rcls (hK h a).1 = some (mY M2).cls) (hcat : (rest.map fun v => v.category).sum ≤ 8) (hc : Calls g d M2 (va_rf (some a) :: as) h v h1) (kk : Run g M (d + 1) (pc + 3) ls (v.toList ++ rest) h1 r h') : Run g M (d + 1) pc ls st h r h' := by
  subst hst
  try subst ht
  refine ⟨hc.1.tr kk.1, ?_⟩
  intro p e R s m args below meth c QQ n0 s0 C hR' RO ad H lsA locs cells slots S
  have hts := C.2.2.2.2.2.2.2.2.1
  obtain ⟨p1, p2, p3, p4, p5, p6⟩ := hp
  have S2 := okL_app.mp S.2.1
  have hM := hc.2 ad ⟨S2.2.1, okL_rev.mp S2.1⟩
  obtain ⟨⟨S6, S6'⟩, ⟨S7, S7'⟩, S8, S9⟩ := S.2.2.2.2.2
  obtain ⟨q1, q2, q5⟩ := hc.1
  obtain ⟨q3, q4, q6⟩ := kk.1
  refine of_run (M2 := M2) (d2 := d) (a := (sL ad (va_rf (some a) :: as)).toArray) kk C hR' RO S S2.2.2 hc.1 ?_
  refine va_runV (As := sL ad as) (n := n) ⟨C.1, C.2.1, C.2.2.2.2.2.1, C.2.2.2.2.2.2.1, hts⟩ hM (cwV n hts (goodIn_cons hl (goodIn_cons hi (goodIn_cons hs (goodIn_cons p6 (goodIn_wsM p5))))) rfl rfl rfl ⟨rfl, p1, p2, p3⟩ ⟨by show d + 1 ≤ R.frames; exact hR'.1, by show 8 + (mL M2 + 11) + 64 * d ≤ R.locals; have := hR'.2.1; omega⟩) ⟨pre_blind, recv_at C S S2.2.1 hrc, pre_at C S⟩ rfl (by rw [sL_len]; exact hn) S.2.2.2.1.1 (by rw [sL_app, sL_rev]; rfl) (lv_room (by rw [sL_cat]; exact hcat)) (C.2.2.1.dec hd) ⟨?_, ?_⟩
  · have := hR'.2.2.1; omega
  · have := hR'.2.2.2; omega
theorem r_callS {M2 : PM} {idx n : Nat} {as : List Value} {st : List Value} {v : Option Value} {h1 : PH} (hd : cd M pc = some (.invokestatic idx, 3)) (hp : PlainM M2 n) (hl : Cond.methodLink (mY M).cls idx (mY M2) ∈ GW) (hi : Cond.static (mY M2) ∈ GW)
    (hst : st = as.reverse ++ rest) (hn : as.length = n) (hcat : (rest.map fun v => v.category).sum ≤ 8) (hc : Calls g d M2 as h v h1) (kk : Run g M (d + 1) (pc + 3) ls (v.toList ++ rest) h1 r h') : Run g M (d + 1) pc ls st h r h' := by
  subst hst
  try subst ht
  refine ⟨hc.1.tr kk.1, ?_⟩
  intro p e R s m args below meth c QQ n0 s0 C hR' RO ad H lsA locs cells slots S
  have hts := C.2.2.2.2.2.2.2.2.1
  obtain ⟨p1, p2, p3, p4, p5, p6⟩ := hp
  have S2 := okL_app.mp S.2.1
  have hM := hc.2 ad (okL_rev.mp S2.1)
  obtain ⟨⟨S6, S6'⟩, ⟨S7, S7'⟩, S8, S9⟩ := S.2.2.2.2.2
  obtain ⟨q1, q2, q5⟩ := hc.1
  obtain ⟨q3, q4, q6⟩ := kk.1
  refine of_run (M2 := M2) (d2 := d) (a := (sL ad as).toArray) kk C hR' RO S S2.2 hc.1 ?_
  refine va_runS (As := sL ad as) (n := n) ⟨C.1, C.2.1, C.2.2.2.2.2.1, C.2.2.2.2.2.2.1, hts⟩ hM (va_cwS n hts (goodIn_cons hl (goodIn_cons hi (goodIn_cons p6 (goodIn_wsM p5)))) rfl rfl rfl ⟨p1, p2, p3⟩ ⟨by show d + 1 ≤ R.frames; exact hR'.1, by show 8 + (mL M2 + 11) + 64 * d ≤ R.locals; have := hR'.2.1; omega⟩) ⟨pre_blind, pre_at C S⟩ rfl (by rw [sL_len]; exact hn) S.2.2.2.1.1 (by rw [sL_app, sL_rev]) (lv_room (by rw [sL_cat]; exact hcat)) (C.2.2.1.dec hd) ⟨?_, ?_⟩
  · have := hR'.2.2.1; omega
  · have := hR'.2.2.2; omega
theorem r_callSN {M2 : PM} {idx n : Nat} {host : String} {as : List Value} {st : List Value} {v : Option Value} {h1 : PH} (hd : cd M pc = some (.invokestatic idx, 3)) (hp : PlainM M2 n) (hl : Cond.methodLinkNest (mY M).cls idx (mY M2) host ∈ NWs) (hi : Cond.static (mY M2) ∈ GW)
    (hst : st = as.reverse ++ rest) (hn : as.length = n) (hcat : (rest.map fun v => v.category).sum ≤ 8) (hc : Calls g d M2 as h v h1) (kk : Run g M (d + 1) (pc + 3) ls (v.toList ++ rest) h1 r h') : Run g M (d + 1) pc ls st h r h' := by
  subst hst
  try subst ht
  refine ⟨hc.1.tr kk.1, ?_⟩
  intro p e R s m args below meth c QQ n0 s0 C hR' RO ad H lsA locs cells slots S
  have hts := C.2.2.2.2.2.2.2.2.1
  obtain ⟨p1, p2, p3, p4, p5, p6⟩ := hp
  have S2 := okL_app.mp S.2.1
  have hM := hc.2 ad (okL_rev.mp S2.1)
  obtain ⟨⟨S6, S6'⟩, ⟨S7, S7'⟩, S8, S9⟩ := S.2.2.2.2.2
  obtain ⟨q1, q2, q5⟩ := hc.1
  obtain ⟨q3, q4, q6⟩ := kk.1
  refine of_run (M2 := M2) (d2 := d) (a := (sL ad as).toArray) kk C hR' RO S S2.2 hc.1 ?_
  refine va_runSN (As := sL ad as) (n := n) ⟨C.1, C.2.1, C.2.2.2.2.2.1, C.2.2.2.2.2.2.1, hts⟩ hM ⟨va_cnB n hts (goodIn_wsM p5) rfl rfl rfl (C.2.2.2.2.2.2.2.2.2.1 _ hl) (hts _ p6) ⟨p1, p2, p3⟩ ⟨by show d + 1 ≤ R.frames; exact hR'.1, by show 8 + (mL M2 + 11) + 64 * d ≤ R.locals; have := hR'.2.1; omega⟩, hts _ hi, trivial⟩ ⟨pre_blind, pre_at C S⟩ rfl (by rw [sL_len]; exact hn) S.2.2.2.1.1 (by rw [sL_app, sL_rev]) (lv_room (by rw [sL_cat]; exact hcat)) (C.2.2.1.dec hd) ⟨?_, ?_⟩
  · have := hR'.2.2.1; omega
  · have := hR'.2.2.2; omega
theorem r_callI {M2 : PM} {idx n a : Nat} {as : List Value} {st : List Value} {v : Option Value} {h1 : PH} (hd : cd M pc = some (.invokespecial idx, 3)) (hp : PlainM M2 n) (hret : mR M2 = none) (hy : (mY M2).name = "<init>") (hl : Cond.methodLink (mY M).cls idx (mY M2) ∈ GW) (hi : Cond.instanceMethod (mY M2) ∈ GW)
    {t : Option Nat} (ht : t = some a) (hst : st = as.reverse ++ va_rf t :: rest) (hn : as.length = n) (hcat : (rest.map fun v => v.category).sum ≤ 8) (hc : Calls g d M2 (va_rf (some a) :: as) h v h1) (kk : Run g M (d + 1) (pc + 3) ls (v.toList ++ rest) h1 r h') : Run g M (d + 1) pc ls st h r h' := by
  subst hst
  try subst ht
  refine ⟨hc.1.tr kk.1, ?_⟩
  intro p e R s m args below meth c QQ n0 s0 C hR' RO ad H lsA locs cells slots S
  have hts := C.2.2.2.2.2.2.2.2.1
  obtain ⟨p1, p2, p3, p4, p5, p6⟩ := hp
  have S2 := okL_app.mp S.2.1
  have hM := hc.2 ad ⟨S2.2.1, okL_rev.mp S2.1⟩
  obtain ⟨⟨S6, S6'⟩, ⟨S7, S7'⟩, S8, S9⟩ := S.2.2.2.2.2
  obtain ⟨q1, q2, q5⟩ := hc.1
  obtain ⟨q3, q4, q6⟩ := kk.1
  refine of_run (M2 := M2) (d2 := d) (a := (sL ad (va_rf (some a) :: as)).toArray) kk C hR' RO S S2.2.2 hc.1 ?_
  refine va_runI (As := sL ad as) (n := n) (maxL := mL M2) (bytes := mB M2) ⟨C.1, C.2.1, C.2.2.2.2.2.1, C.2.2.2.2.2.2.1, hts⟩ hM (cwI n hts (goodIn_wsM p5) (by rw [← hret]; rfl) rfl rfl (hts _ p6) (hts _ hl) (hts _ hi) hy ⟨p1, p2, p3⟩ ⟨by show d + 1 ≤ R.frames; exact hR'.1, by show 8 + (mL M2 + 11) + 64 * d ≤ R.locals; have := hR'.2.1; omega⟩) ⟨pre_blind, pre_at C S⟩ rfl (by rw [sL_len]; exact hn) S.2.2.2.1.1 (by rw [sL_app, sL_rev]; rfl) (lv_room (by rw [sL_cat]; exact hcat)) (C.2.2.1.dec hd) ⟨?_, ?_⟩
  · have := hR'.2.2.1; omega
  · have := hR'.2.2.2; omega
theorem r_callIN {M2 : PM} {idx n a : Nat} {host : String} {as : List Value} {st : List Value} {v : Option Value} {h1 : PH} (hd : cd M pc = some (.invokespecial idx, 3)) (hp : PlainM M2 n) (hret : mR M2 = none) (hy : (mY M2).name = "<init>") (hl : Cond.methodLinkNest (mY M).cls idx (mY M2) host ∈ NWs) (hi : Cond.instanceMethod (mY M2) ∈ GW)
    {t : Option Nat} (ht : t = some a) (hst : st = as.reverse ++ va_rf t :: rest) (hn : as.length = n) (hcat : (rest.map fun v => v.category).sum ≤ 8) (hc : Calls g d M2 (va_rf (some a) :: as) h v h1) (kk : Run g M (d + 1) (pc + 3) ls (v.toList ++ rest) h1 r h') : Run g M (d + 1) pc ls st h r h' := by
  subst hst
  try subst ht
  refine ⟨hc.1.tr kk.1, ?_⟩
  intro p e R s m args below meth c QQ n0 s0 C hR' RO ad H lsA locs cells slots S
  have hts := C.2.2.2.2.2.2.2.2.1
  obtain ⟨p1, p2, p3, p4, p5, p6⟩ := hp
  have S2 := okL_app.mp S.2.1
  have hM := hc.2 ad ⟨S2.2.1, okL_rev.mp S2.1⟩
  obtain ⟨⟨S6, S6'⟩, ⟨S7, S7'⟩, S8, S9⟩ := S.2.2.2.2.2
  obtain ⟨q1, q2, q5⟩ := hc.1
  obtain ⟨q3, q4, q6⟩ := kk.1
  refine of_run (M2 := M2) (d2 := d) (a := (sL ad (va_rf (some a) :: as)).toArray) kk C hR' RO S S2.2.2 hc.1 ?_
  refine va_runIN (As := sL ad as) (n := n) (maxL := mL M2) (bytes := mB M2) ⟨C.1, C.2.1, C.2.2.2.2.2.1, C.2.2.2.2.2.2.1, hts⟩ hM ⟨va_cnB n hts (goodIn_wsM p5) (by rw [← hret]; rfl) rfl rfl (C.2.2.2.2.2.2.2.2.2.1 _ hl) (hts _ p6) ⟨p1, p2, p3⟩ ⟨by show d + 1 ≤ R.frames; exact hR'.1, by show 8 + (mL M2 + 11) + 64 * d ≤ R.locals; have := hR'.2.1; omega⟩, hy, hts _ hi⟩ ⟨pre_blind, pre_at C S⟩ rfl (by rw [sL_len]; exact hn) S.2.2.2.1.1 (by rw [sL_app, sL_rev]; rfl) (lv_room (by rw [sL_cat]; exact hcat)) (C.2.2.1.dec hd) ⟨?_, ?_⟩
  · have := hR'.2.2.1; omega
  · have := hR'.2.2.2; omega
theorem r_callV0 {M2 : PM} {idx n a : Nat} {as : List Value} {st : List Value} {h1 : PH} (hd : cd M pc = some (.invokevirtual idx, 3)) (hp : PlainM M2 n) (hl : Cond.methodLink (mY M).cls idx (mY M2) ∈ GW) (hi : Cond.instanceMethod (mY M2) ∈ GW) (hs : Cond.selects (mY M2).cls (mY M2) (mY M2) ∈ GW)
    {t : Option Nat} (ht : t = some a) (hst : st = as.reverse ++ va_rf t :: rest) (hn : as.length = n) (hrc : rcls (hK h a).1 = some (mY M2).cls) (hcat : (rest.map fun v => v.category).sum ≤ 8) (hc : Calls g d M2 (va_rf (some a) :: as) h none h1) (kk : Run g M (d + 1) (pc + 3) ls rest h1 r h') : Run g M (d + 1) pc ls st h r h' := r_callV hd hp hl hi hs ht hst hn hrc hcat hc kk
theorem r_callV1 {M2 : PM} {idx n a : Nat} {as : List Value} {st : List Value} {w : Value} {h1 : PH} (hd : cd M pc = some (.invokevirtual idx, 3)) (hp : PlainM M2 n) (hl : Cond.methodLink (mY M).cls idx (mY M2) ∈ GW) (hi : Cond.instanceMethod (mY M2) ∈ GW) (hs : Cond.selects (mY M2).cls (mY M2) (mY M2) ∈ GW)
    {t : Option Nat} (ht : t = some a) (hst : st = as.reverse ++ va_rf t :: rest) (hn : as.length = n) (hrc : rcls (hK h a).1 = some (mY M2).cls) (hcat : (rest.map fun v => v.category).sum ≤ 8) (hc : Calls g d M2 (va_rf (some a) :: as) h (some w) h1) (kk : Run g M (d + 1) (pc + 3) ls (w :: rest) h1 r h') : Run g M (d + 1) pc ls st h r h' := r_callV hd hp hl hi hs ht hst hn hrc hcat hc kk
theorem r_callS0 {M2 : PM} {idx n : Nat} {as : List Value} {st : List Value} {h1 : PH} (hd : cd M pc = some (.invokestatic idx, 3)) (hp : PlainM M2 n) (hl : Cond.methodLink (mY M).cls idx (mY M2) ∈ GW) (hi : Cond.static (mY M2) ∈ GW)
    (hst : st = as.reverse ++ rest) (hn : as.length = n) (hcat : (rest.map fun v => v.category).sum ≤ 8) (hc : Calls g d M2 as h none h1) (kk : Run g M (d + 1) (pc + 3) ls rest h1 r h') : Run g M (d + 1) pc ls st h r h' := r_callS hd hp hl hi hst hn hcat hc kk
theorem r_callS1 {M2 : PM} {idx n : Nat} {as : List Value} {st : List Value} {w : Value} {h1 : PH} (hd : cd M pc = some (.invokestatic idx, 3)) (hp : PlainM M2 n) (hl : Cond.methodLink (mY M).cls idx (mY M2) ∈ GW) (hi : Cond.static (mY M2) ∈ GW)
    (hst : st = as.reverse ++ rest) (hn : as.length = n) (hcat : (rest.map fun v => v.category).sum ≤ 8) (hc : Calls g d M2 as h (some w) h1) (kk : Run g M (d + 1) (pc + 3) ls (w :: rest) h1 r h') : Run g M (d + 1) pc ls st h r h' := r_callS hd hp hl hi hst hn hcat hc kk
theorem r_callSN0 {M2 : PM} {idx n : Nat} {host : String} {as : List Value} {st : List Value} {h1 : PH} (hd : cd M pc = some (.invokestatic idx, 3)) (hp : PlainM M2 n) (hl : Cond.methodLinkNest (mY M).cls idx (mY M2) host ∈ NWs) (hi : Cond.static (mY M2) ∈ GW)
    (hst : st = as.reverse ++ rest) (hn : as.length = n) (hcat : (rest.map fun v => v.category).sum ≤ 8) (hc : Calls g d M2 as h none h1) (kk : Run g M (d + 1) (pc + 3) ls rest h1 r h') : Run g M (d + 1) pc ls st h r h' := r_callSN hd hp hl hi hst hn hcat hc kk
theorem r_callSN1 {M2 : PM} {idx n : Nat} {host : String} {as : List Value} {st : List Value} {w : Value} {h1 : PH} (hd : cd M pc = some (.invokestatic idx, 3)) (hp : PlainM M2 n) (hl : Cond.methodLinkNest (mY M).cls idx (mY M2) host ∈ NWs) (hi : Cond.static (mY M2) ∈ GW)
    (hst : st = as.reverse ++ rest) (hn : as.length = n) (hcat : (rest.map fun v => v.category).sum ≤ 8) (hc : Calls g d M2 as h (some w) h1) (kk : Run g M (d + 1) (pc + 3) ls (w :: rest) h1 r h') : Run g M (d + 1) pc ls st h r h' := r_callSN hd hp hl hi hst hn hcat hc kk
theorem r_callI0 {M2 : PM} {idx n a : Nat} {as : List Value} {st : List Value} {h1 : PH} (hd : cd M pc = some (.invokespecial idx, 3)) (hp : PlainM M2 n) (hret : mR M2 = none) (hy : (mY M2).name = "<init>") (hl : Cond.methodLink (mY M).cls idx (mY M2) ∈ GW) (hi : Cond.instanceMethod (mY M2) ∈ GW)
    {t : Option Nat} (ht : t = some a) (hst : st = as.reverse ++ va_rf t :: rest) (hn : as.length = n) (hcat : (rest.map fun v => v.category).sum ≤ 8) (hc : Calls g d M2 (va_rf (some a) :: as) h none h1) (kk : Run g M (d + 1) (pc + 3) ls rest h1 r h') : Run g M (d + 1) pc ls st h r h' := r_callI hd hp hret hy hl hi ht hst hn hcat hc kk
theorem r_callI1 {M2 : PM} {idx n a : Nat} {as : List Value} {st : List Value} {w : Value} {h1 : PH} (hd : cd M pc = some (.invokespecial idx, 3)) (hp : PlainM M2 n) (hret : mR M2 = none) (hy : (mY M2).name = "<init>") (hl : Cond.methodLink (mY M).cls idx (mY M2) ∈ GW) (hi : Cond.instanceMethod (mY M2) ∈ GW)
    {t : Option Nat} (ht : t = some a) (hst : st = as.reverse ++ va_rf t :: rest) (hn : as.length = n) (hcat : (rest.map fun v => v.category).sum ≤ 8) (hc : Calls g d M2 (va_rf (some a) :: as) h (some w) h1) (kk : Run g M (d + 1) (pc + 3) ls (w :: rest) h1 r h') : Run g M (d + 1) pc ls st h r h' := r_callI hd hp hret hy hl hi ht hst hn hcat hc kk
theorem r_callIN0 {M2 : PM} {idx n a : Nat} {host : String} {as : List Value} {st : List Value} {h1 : PH} (hd : cd M pc = some (.invokespecial idx, 3)) (hp : PlainM M2 n) (hret : mR M2 = none) (hy : (mY M2).name = "<init>") (hl : Cond.methodLinkNest (mY M).cls idx (mY M2) host ∈ NWs) (hi : Cond.instanceMethod (mY M2) ∈ GW)
    {t : Option Nat} (ht : t = some a) (hst : st = as.reverse ++ va_rf t :: rest) (hn : as.length = n) (hcat : (rest.map fun v => v.category).sum ≤ 8) (hc : Calls g d M2 (va_rf (some a) :: as) h none h1) (kk : Run g M (d + 1) (pc + 3) ls rest h1 r h') : Run g M (d + 1) pc ls st h r h' := r_callIN hd hp hret hy hl hi ht hst hn hcat hc kk
theorem r_callIN1 {M2 : PM} {idx n a : Nat} {host : String} {as : List Value} {st : List Value} {w : Value} {h1 : PH} (hd : cd M pc = some (.invokespecial idx, 3)) (hp : PlainM M2 n) (hret : mR M2 = none) (hy : (mY M2).name = "<init>") (hl : Cond.methodLinkNest (mY M).cls idx (mY M2) host ∈ NWs) (hi : Cond.instanceMethod (mY M2) ∈ GW)
    {t : Option Nat} (ht : t = some a) (hst : st = as.reverse ++ va_rf t :: rest) (hn : as.length = n) (hcat : (rest.map fun v => v.category).sum ≤ 8) (hc : Calls g d M2 (va_rf (some a) :: as) h (some w) h1) (kk : Run g M (d + 1) (pc + 3) ls (w :: rest) h1 r h') : Run g M (d + 1) pc ls st h r h' := r_callIN hd hp hret hy hl hi ht hst hn hcat hc kk
theorem lv_args_okP {n : Nat} : ∀ (k : Nat) {as : List Value}, okL n as → okP n (lv_args k as)
  | _, [], _ => trivial
  | k, v :: as, h => by
    cases v <;> exact ⟨h.1, lv_args_okP _ h.2⟩
theorem lv_args_sP (ad : Nat → Nat) : ∀ (k : Nat) (as : List Value), lv_args k (sL ad as) = sP ad (lv_args k as)
  | _, [] => rfl
  | k, v :: as => by
    cases v <;> exact congrArg (List.cons _) (lv_args_sP ad _ as)
/-- the method's walk from its entry gives its contract -/
theorem Calls.of {M2 : PM} {d : Nat} {as : List Value} {v : Option Value} {h1 : PH} (hcode : CodeOK M2) (hT : hTab M2 = none) (hplain : plainName (mY M2).cls = true) (hsz : ∀ ad : Nat → Nat, (lg_sl (sL ad as)).length ≤ mL M2) (k : Run g M2 d 0 (lv_args 0 as) [] h (some v) h1) : Calls g d M2 as h v h1 := by
  refine ⟨k.1, fun ad hok => ?_⟩
  refine Met.ofW (cc := mB M2) (maxL := mL M2) (ret := mR M2) hplain rfl ?_
  intro p e s m args below meth c s₁ B hml hv
  obtain ⟨rfl, ⟨hNw, hK', hOld⟩, hRep⟩ := hv
  have hx := B.exec
  have hb := B.bytes
  have hr := B.returns
  have hlk := B.notSynchronized
  have hts : ∀ w ∈ wsM M2, w.before _ s = true := atoms_spec (ws := wsM M2) B.pre
  have hown : s.vm.findClass (mY M2).cls = some m.cls := findClass_of_methodNamed B.named
  have C : Cx g M2 p s m (sL ad as).toArray meth c := ⟨hx, hb, ⟨hcode, fun q hq => by rw [hT] at hq; cases hq⟩, hr, hlk, hml, hown, (name_of_methodNamed B.named B.method).1, fun w hw => hts w (List.mem_cons_of_mem _ hw), hNw, hK', hOld⟩
  have hl := lv_entry (sL ad as) (n := mL M2) (hsz ad)
  rw [lg_entry_eq]
  generalize (lg_sl (sL ad as) ++ List.replicate (mL M2 - (lg_sl (sL ad as)).length) Slot.unset).toArray = lsA at hl ⊢
  refine k.2 p e (headSpec (wsM M2) (rmOf d h h1)).room s m _ below meth c _ (hN h, ad, hE h) (hS h) C ⟨Nat.le_refl _, Nat.le_refl _, Nat.le_refl _, Nat.le_refl _⟩ ⟨?_, fun z => by cases z⟩ ad s.heap lsA [] 0 0 ⟨hRep, trivial, lv_args_okP 0 hok, by rw [← lv_args_sP]; exact hl, va_S.rf, ⟨Nat.le_refl _, fun _ _ => rfl⟩, ⟨Nat.le_refl _, Nat.le_refl _⟩, by simp, (Nat.sub_self _).symm⟩
  intro pc i st ad' H lsA' locs cells slots hdg hi S
  obtain ⟨S1, S2, -, -, S5, ⟨S6, S6'⟩, S7, rfl, rfl⟩ := S
  have hq : ∀ (o : Option Value), v = o → okO (hN h1) o → ∀ t : State, t.heap = H → s.WarmedH t.vm → postC' g ad h v h1 (sL ad as).toArray s (.returned (o.map (sv ad'))) t := by
    rintro o rfl ho t ht hW
    exact ⟨ad', rfl, S6', by rw [ht]; exact S1, ho, S5.F ht⟩
  rcases hi with ⟨rfl, x, ty, rfl, hv, hty, hn⟩ | ⟨rfl, x, rfl, hv, hty⟩ | ⟨rfl, t, rt, rfl, hv, hty, hrt⟩ | ⟨rfl, rfl, hv, hty⟩
  · exact W.zret hx hb (hr.trans hty) hn (hq (some (.int x)) (Option.some.inj hv) trivial) S5.2.2 hdg hlk
  · exact W.lret hx hb (hr.trans hty) (hq (some (.long x)) (Option.some.inj hv) trivial) S5.2.2 hdg hlk
  · have h9 := hq (some (va_rf t)) (Option.some.inj hv) S2.1
    exact W.aret (v := sv ad' (va_rf t)) hx hb (hr.trans hty) hrt (by rw [sv_rf]; cases t with | none => exact Or.inl rfl | some q => exact Or.inr ⟨_, rfl⟩) h9 S5.2.2 hdg hlk
  · exact W.vret hx hb (hr.trans hty) (hq none (Option.some.inj hv) trivial) S5.2.2 hdg hlk
end CR
