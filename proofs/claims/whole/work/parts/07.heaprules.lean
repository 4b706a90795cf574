theorem Rep.own {g : GT} {ad : Nat → Nat} {h : PH} {H : Heap} (R : Rep g ad h H) {a : Nat} (hk : (hK h a).1 < 26) : 6 ≤ a := by
  obtain ⟨-, -, -, -, -, o0, -, o1, -, -, o2, -, o3, -, -, o4, -, o5⟩ := R
  rcases Nat.lt_or_ge a 6 with q | q
  · exfalso
    have z : a = 0 ∨ a = 1 ∨ a = 2 ∨ a = 3 ∨ a = 4 ∨ a = 5 := by omega
    rcases z with rfl | rfl | rfl | rfl | rfl | rfl
    · rw [o0] at hk; simp at hk
    · rw [o1] at hk; simp at hk
    · rw [o2] at hk; simp at hk
    · rw [o3] at hk; simp at hk
    · rw [o4] at hk; simp at hk
    · rw [o5] at hk; simp at hk
  · exact q
def SameBut (h h2 : PH) (a : Nat) : Prop := hN h2 = hN h ∧ (hS h2 = hS h ∧ hE h2 = hE h) ∧ hK h2 = hK h ∧ ∀ b, b ≠ a → ∀ j, hI h2 b j = hI h b j ∧ hJ h2 b j = hJ h b j ∧ hZ h2 b j = hZ h b j ∧ hR h2 b j = hR h b j
theorem sb_wI (h : PH) (a i : Nat) (v : Int32) : SameBut h (wI h a i v) a := ⟨rfl, ⟨rfl, rfl⟩, rfl, fun b hb j => ⟨by rw [hI_wI, if_neg (fun z => hb z.1)], rfl, rfl, rfl⟩⟩
theorem sb_wJ (h : PH) (a i : Nat) (v : Int64) : SameBut h (wJ h a i v) a := ⟨rfl, ⟨rfl, rfl⟩, rfl, fun b hb j => ⟨rfl, by rw [hJ_wJ, if_neg (fun z => hb z.1)], rfl, rfl⟩⟩
theorem sb_wZ (h : PH) (a i : Nat) (v : Bool) : SameBut h (wZ h a i v) a := ⟨rfl, ⟨rfl, rfl⟩, rfl, fun b hb j => ⟨rfl, rfl, by rw [hZ_wZ, if_neg (fun z => hb z.1)], rfl⟩⟩
theorem sb_wR (h : PH) (a i : Nat) (v : Option Nat) : SameBut h (wR h a i v) a := ⟨rfl, ⟨rfl, rfl⟩, rfl, fun b hb j => ⟨rfl, rfl, rfl, by rw [hR_wR, if_neg (fun z => hb z.1)]⟩⟩
theorem fval_eq {h h2 : PH} {ad ad2 : Nat → Nat} {b j : Nat} (e1 : hI h2 b j = hI h b j) (e2 : hJ h2 b j = hJ h b j) (e3 : hZ h2 b j = hZ h b j) (e4 : (hR h2 b j).map ad2 = (hR h b j).map ad) (t : FieldType) : fval h2 ad2 b t j = fval h ad b t j := by
  cases t <;> simp only [fval, e1, e2, e3, e4]
theorem acont_eq {h h2 : PH} {ad ad2 : Nat → Nat} {b j : Nat} (e1 : hI h2 b j = hI h b j) (e2 : hJ h2 b j = hJ h b j) (e3 : hZ h2 b j = hZ h b j) (e4 : (hR h2 b j).map ad2 = (hR h b j).map ad) (kd : Nat) : acont h2 ad2 kd b j = acont h ad kd b j := by
  unfold acont
  split <;> simp only [e1, e2, e3, e4]
theorem CellR.same {g : GT} {ad : Nat → Nat} {h h2 : PH} {H H1 : Heap} {a b : Nat} (hs : SameBut h h2 a) (hb : b ≠ a) (hq : H1[ad b]? = H[ad b]?) (hc : CellR g ad h H b) : CellR g ad h2 H1 b := by
  obtain ⟨e1, e2, e3, e4⟩ := hs
  refine ⟨fun ci r h1 h2' => ?_, fun kd k1 k2 k3 => ?_⟩
  · rw [e3] at h1
    refine ((hc.1 ci r h1 h2').kept hq).to fun k _ => ?_
    exact (fval_eq (e4 b hb k).1 (e4 b hb k).2.1 (e4 b hb k).2.2.1 (by rw [(e4 b hb k).2.2.2]) _).symm
  · rw [e3] at k3 ⊢
    rw [hq, hc.2 kd k1 k2 k3]
    congr 2
    funext j
    exact (acont_eq (e4 b hb j).1 (e4 b hb j).2.1 (e4 b hb j).2.2.1 (by rw [(e4 b hb j).2.2.2]) _).symm
theorem OldK.same {g : GT} {h h2 : PH} {a : Nat} (hs : SameBut h h2 a) (ha : 6 ≤ a) (o : OldK g h) : OldK g h2 := by
  obtain ⟨e1, e2, e3, e4⟩ := hs
  have i : ∀ b, b < 6 → ∀ j, hI h2 b j = hI h b j := fun b hb j => (e4 b (by omega) j).1
  have rr : ∀ b, b < 6 → ∀ j, hR h2 b j = hR h b j := fun b hb j => (e4 b (by omega) j).2.2.2
  unfold OldK at o ⊢
  rw [e3, rr 1 (by omega), rr 3 (by omega), i 1 (by omega), i 3 (by omega)]
  refine ⟨o.1, fun j => by rw [i 0 (by omega)]; exact o.2.1 j, o.2.2.1, o.2.2.2.1, o.2.2.2.2.1, o.2.2.2.2.2.1, fun j => by rw [i 2 (by omega)]; exact o.2.2.2.2.2.2.1 j, o.2.2.2.2.2.2.2.1, o.2.2.2.2.2.2.2.2.1, o.2.2.2.2.2.2.2.2.2.1, o.2.2.2.2.2.2.2.2.2.2.1, fun j => by rw [i 4 (by omega)]; exact o.2.2.2.2.2.2.2.2.2.2.2.1 j, o.2.2.2.2.2.2.2.2.2.2.2.2⟩
theorem Rep.put {g : GT} {ad : Nat → Nat} {h h2 : PH} {H H1 : Heap} {a : Nat} (R : Rep g ad h H) (h6 : 6 ≤ a) (ha : a < hN h) (hs : SameBut h h2 a) (hr : ∀ j r, hR h2 a j = some r → r < hN h) (z : H1.size = H.size) (oq : ∀ q, q ≠ ad a → H1[q]? = H[q]?) (hc : CellR g ad h2 H1 a) : Rep g ad h2 H1 := by
  obtain ⟨r1, r2', r3, r4, r5, r6⟩ := R
  have hs' := hs
  obtain ⟨e1, e2, e3, e4⟩ := hs'
  refine ⟨fun b b1 b2 => ?_, fun b c b1 b2 c1 c2 he => ?_, r3, by rw [e1]; exact r4, fun b j r hb => ?_, r6.same hs h6⟩
  · rw [e1] at b2
    obtain ⟨q1, q2, q3, q4⟩ := r1 b b1 b2
    refine ⟨q1, by rw [z]; exact q2, by rw [e3]; exact q3, ?_⟩
    by_cases hb : b = a
    · subst hb; exact hc
    · exact q4.same hs hb (oq _ fun w => hb (r2' b a b1 b2 h6 ha w))
  · rw [e1] at b2 c2
    exact r2' b c b1 b2 c1 c2 he
  · rw [e1]
    by_cases hba : b = a
    · subst hba; exact hr j r hb
    · rw [(e4 b hba j).2.2.2] at hb
      exact r5 b j r hb
/-- a field by its link -/
def FldOK (M : PM) (idx ci k : Nat) (t : FieldType) (fin : Bool) : Prop := ∃ (C : String) (T : u_T) (N : Nat), vwCl[ci]? = some (C, T, N) ∧ k < N ∧ tyTab ci k = t ∧ (T k).2.2.2 = fin ∧ (T k).1 = C ∧ Cond.fieldLink (mY M).cls idx C (T k).2.1 (T k).2.2.1 ∈ GW
theorem ci_lt {ci : Nat} {r : vw_C} (h : vwCl[ci]? = some r) : ci < 12 := (List.getElem?_eq_some_iff.mp h).1
section HR
variable {g : GT} {M : PM} {d pc : Nat} {ls : List (Nat × Value)} {rest : List Value} {h : PH} {r : Res} {h' : PH}
theorem r_get {idx ci k a : Nat} {ty : FieldType} {fin : Bool} {t : Option Nat} {v : Value} (hd : cd M pc = some (.getfield idx, 3)) (hf : FldOK M idx ci k ty fin) (ht : t = some a) (hk : (hK h a).1 = ci)
    (hv : ∀ ad, sv ad v = fval h ad a ty k) (ho : (∀ b j r, hR h b j = some r → r < hN h) → okv (hN h) v) (kk : Run g M d (pc + 3) ls (v :: rest) h r h') : Run g M d pc ls (va_rf t :: rest) h r h' := by
  subst ht
  refine ⟨kk.1, ?_⟩
  intro p e R s m args below meth c QQ n0 s0 C hR' RO ad H lsA locs cells slots S
  obtain ⟨Cn, T, N, hc, hkN, hty, -, hTC, hl⟩ := hf
  have hlt := ci_lt hc
  have h6 := S.1.own (a := a) (by omega)
  have hn : a < hN h := S.2.1.1
  obtain ⟨cell, q1, q2, q3, q4⟩ := (S.1.1 a h6 hn).2.2.2.1 ci _ hk hc
  obtain ⟨hin, -, -⟩ := GWcls ci _ _ _ hc
  have hts := C.2.2.2.2.2.2.2.2.1
  obtain ⟨hSl, hfc, kC, hkC, hkind⟩ := C.2.2.2.2.2.2.2.2.2.2.1.1 ci _ hc
  obtain ⟨cf, kf, fi, f, hi, hsl⟩ := hSl k hkN
  have hi' : s.fieldFound? Cn (T k).2.1 (T k).2.2.1 = some (cf, kf, fi, f) := by rw [← hTC]; exact hi
  refine W.getf C.1 C.2.1 C.2.2.2.2.2.2.1 (hts _ hl) hi' (u_facts hfc hkC (u_lays hts hin hkN) hi).1 q1 (by rw [q3]; exact fun z => by cases z) (v := sv ad v) ?_ rfl rfl (C.2.2.1.dec hd) ?_
  · rw [hsl, q4 k hkN, hv ad, ← hty]
  · exact kk.2 p e R s m args below meth c QQ n0 s0 C hR' RO ad H lsA locs cells slots ⟨S.1, ⟨ho S.1.2.2.2.2.1, S.2.1.2⟩, S.2.2⟩
theorem r_getI {idx ci k a : Nat} {ty : FieldType} {fin : Bool} {t : Option Nat} (hd : cd M pc = some (.getfield idx, 3)) (hf : FldOK M idx ci k ty fin) (hty : ty = .int ∨ ty = .byte) (ht : t = some a) (hk : (hK h a).1 = ci) (kk : Run g M d (pc + 3) ls (.int (hI h a k) :: rest) h r h') : Run g M d pc ls (va_rf t :: rest) h r h' :=
  r_get (v := .int (hI h a k)) hd hf ht hk (by rcases hty with rfl | rfl <;> exact fun _ => rfl) (fun _ => trivial) kk
theorem r_getJ {idx ci k a : Nat} {fin : Bool} {t : Option Nat} (hd : cd M pc = some (.getfield idx, 3)) (hf : FldOK M idx ci k .long fin) (ht : t = some a) (hk : (hK h a).1 = ci) (kk : Run g M d (pc + 3) ls (.long (hJ h a k) :: rest) h r h') : Run g M d pc ls (va_rf t :: rest) h r h' :=
  r_get (v := .long (hJ h a k)) hd hf ht hk (fun _ => rfl) (fun _ => trivial) kk
theorem r_getZ {idx ci k a : Nat} {fin : Bool} {t : Option Nat} (hd : cd M pc = some (.getfield idx, 3)) (hf : FldOK M idx ci k .boolean fin) (ht : t = some a) (hk : (hK h a).1 = ci) (kk : Run g M d (pc + 3) ls (.int (bI (hZ h a k)) :: rest) h r h') : Run g M d pc ls (va_rf t :: rest) h r h' :=
  r_get (v := .int (bI (hZ h a k))) hd hf ht hk (fun _ => rfl) (fun _ => trivial) kk
theorem r_getR {idx ci k a : Nat} {ty : FieldType} {fin : Bool} {t : Option Nat} (hd : cd M pc = some (.getfield idx, 3)) (hf : FldOK M idx ci k ty fin) (hty : (∃ n, ty = .object n) ∨ ∃ n, ty = .array n) (ht : t = some a) (hk : (hK h a).1 = ci) (kk : Run g M d (pc + 3) ls (va_rf (hR h a k) :: rest) h r h') : Run g M d pc ls (va_rf t :: rest) h r h' :=
  r_get hd hf ht hk (by rcases hty with ⟨n, rfl⟩ | ⟨n, rfl⟩ <;> exact fun ad => sv_rf ad _) (fun z => okv_rf fun q hq => z a k q hq) kk
/-- a store into a field: what the new heap must be -/
theorem r_put {idx ci k a : Nat} {ty : FieldType} {fin : Bool} {t : Option Nat} {v : Value} {h2 : PH} (hd : cd M pc = some (.putfield idx, 3)) (hf : FldOK M idx ci k ty fin) (hfin : fin = true → (mY M).name = "<init>" ∧ ∃ T N, vwCl[ci]? = some ((mY M).cls, T, N)) (ht : t = some a) (hk : (hK h a).1 = ci)
    (hs : SameBut h h2 a) (h1 : ∀ ad, fval h2 ad a ty k = sv ad v) (h2' : ∀ ad T j, j ≠ k → fval h2 ad a T j = fval h ad a T j) (hr : okv (hN h) v → (∀ b j r, hR h b j = some r → r < hN h) → ∀ j r, hR h2 a j = some r → r < hN h)
    (hn : ∀ ad, narrow ty (sv ad v) = sv ad v) (hfit : ∀ ad, fits ty (sv ad v) = true) (kk : Run g M d (pc + 3) ls rest h2 r h') : Run g M d pc ls (v :: va_rf t :: rest) h r h' := by
  subst ht
  refine ⟨⟨by rw [← hs.1]; exact kk.1.1, by rw [← hs.2.1.1]; exact kk.1.2.1, by rw [← hs.2.1.2]; exact kk.1.2.2⟩, ?_⟩
  intro p e R s m args below meth c QQ n0 s0 C hR' RO ad H lsA locs cells slots S
  obtain ⟨Cn, T, N, hc, hkN, hty, hfi, hTC, hl⟩ := hf
  have hlt := ci_lt hc
  have h6 := S.1.own (a := a) (by omega)
  have hn' : a < hN h := S.2.1.2.1
  have h7 := S.1.1 a h6 hn'
  obtain ⟨cell, q1, q2, q3, q4⟩ := h7.2.2.2.1 ci _ hk hc
  obtain ⟨hin, htyp, hnm⟩ := GWcls ci _ _ _ hc
  have hts := C.2.2.2.2.2.2.2.2.1
  have hK' := C.2.2.2.2.2.2.2.2.2.2.1
  have hap := va_apart (own := Cn) hts hin (tyTab ci) htyp hnm hK' hc
  obtain ⟨hSl, hfc, kC, hkC, hkind⟩ := hK'.1 ci _ hc
  obtain ⟨cf, kf, fi, f, hi, hsl⟩ := hSl k hkN
  have hi' : s.fieldFound? Cn (T k).2.1 (T k).2.2.1 = some (cf, kf, fi, f) := by rw [← hTC]; exact hi
  have hst := (u_facts hfc hkC (u_lays hts hin hkN) hi).1
  have hlay := hts _ (hin _ (u_in_lay hkN))
  have hpd : parseFieldDescriptor (T k).2.2.1 = some ty := by rw [htyp k hkN, hty]
  have fin' : ∀ H' : Heap, H'[ad a]? = some (cell.setSlot (gF g ci k) (sv ad v)) → H'.size = H.size → (∀ q, q ≠ ad a → H'[q]? = H[q]?) → W p (gl g) e R s m args below meth c H' (locs ++ [⟨ad a, gF g ci k⟩]) cells slots QQ (F0 m (pc + 3) lsA (sL ad rest)) := by
    intro H' e1 e2 e3
    have hc2 : CellR g ad h2 H' a := by
      refine ⟨fun ci' r' z1 z2 => ?_, fun kd k1 k2 k3 => ?_⟩
      · rw [hs.2.2.1, hk] at z1
        subst z1
        cases z2.symm.trans hc
        refine t_OB.to (V := updV (fun j => fval h ad a (tyTab ci j) j) k (sv ad v)) ⟨_, e1, q2, q3, t_set q4 hap hkN (sv ad v)⟩ fun j _ => ?_
        by_cases hj : j = k
        · subst hj
          rw [hty]
          simp only [updV, if_true]
          exact (h1 ad).symm
        · simp only [updV, if_neg hj]
          exact (h2' ad _ j hj).symm
      · rw [hs.2.2.1, hk] at k3
        omega
    refine kk.2 p e R s m args below meth c QQ n0 s0 C hR' RO ad H' lsA _ cells slots ⟨S.1.put h6 hn' hs (hr S.2.1.1 S.1.2.2.2.2.1) e2 e3 hc2, ?_, ?_, S.2.2.2.1, S.2.2.2.2.1.put e2 e3 h7.1, ?_⟩
    · rw [hs.1]; exact S.2.1.2.2
    · rw [hs.1]; exact S.2.2.1
    · rw [hs.1, hs.2.1.1, hs.2.1.2]; exact S.2.2.2.2.2
  cases fin with
  | false =>
    unfold u_lay at hlay
    rw [if_neg (by rw [hfi]; decide)] at hlay
    have h9 := u_store hfc hkC hkind hlay hi hpd (hn ad) (hfit ad)
    refine W.putK C.1 C.2.1 (f := f) ⟨C.2.2.2.2.2.2.1, hts _ hl, ⟨_, _, _, hi'⟩, hst⟩ (by rw [q2]; exact h9) q1 q3 (by rw [hsl]; exact k2_hasslot (q4 k hkN)) rfl rfl (C.2.2.1.dec hd) fun H' e1 e2 e3 => ?_
    rw [hsl] at e1 ⊢
    exact fin' H' e1 e2 e3
  | true =>
    obtain ⟨hini, T', N', hcl'⟩ := hfin rfl
    cases hcl'.symm.trans hc
    unfold u_lay at hlay
    rw [if_pos hfi] at hlay
    have hcf : m.cls = cf := by
      obtain ⟨_, _, c', _, _, _, -, -, hf', -, hown2, -⟩ := Cond.laid_spec (final := true) hlay
      have e1 : c' = cf := by have := hi.symm.trans hf'; simp at this; exact this.1.symm
      rw [hTC] at hown2
      rw [← e1]; exact Option.some.inj (C.2.2.2.2.2.2.1.symm.trans hown2)
    refine W.putFinK C.1 C.2.1 C.2.2.2.2.2.2.1 (hts _ hl) hi' hst hcf (C.2.2.2.2.2.2.2.1.trans hini) (by rw [q2]; exact u_fits hfc hkC hkind (Or.inr hlay) hi hpd (hn ad) (hfit ad)) q1 q3 (by rw [hsl]; exact k2_hasslot (q4 k hkN)) rfl rfl (C.2.2.1.dec hd) fun H' e1 e2 e3 => ?_
    rw [hsl] at e1 ⊢
    exact fin' H' e1 e2 e3
theorem fv_wI (h : PH) (a k : Nat) (x : Int32) (ad : Nat → Nat) (T : FieldType) (j : Nat) (hj : j ≠ k) : fval (wI h a k x) ad a T j = fval h ad a T j :=
  fval_eq (h := h) (h2 := wI h a k x) (ad := ad) (ad2 := ad) (b := a) (j := j) (by rw [hI_wI, if_neg (fun z => hj z.2)]) rfl rfl rfl T
theorem fv_wJ (h : PH) (a k : Nat) (x : Int64) (ad : Nat → Nat) (T : FieldType) (j : Nat) (hj : j ≠ k) : fval (wJ h a k x) ad a T j = fval h ad a T j :=
  fval_eq (h := h) (h2 := wJ h a k x) (ad := ad) (ad2 := ad) (b := a) (j := j) rfl (by rw [hJ_wJ, if_neg (fun z => hj z.2)]) rfl rfl T
theorem fv_wZ (h : PH) (a k : Nat) (x : Bool) (ad : Nat → Nat) (T : FieldType) (j : Nat) (hj : j ≠ k) : fval (wZ h a k x) ad a T j = fval h ad a T j :=
  fval_eq (h := h) (h2 := wZ h a k x) (ad := ad) (ad2 := ad) (b := a) (j := j) rfl rfl (by rw [hZ_wZ, if_neg (fun z => hj z.2)]) rfl T
theorem fv_wR (h : PH) (a k : Nat) (x : Option Nat) (ad : Nat → Nat) (T : FieldType) (j : Nat) (hj : j ≠ k) : fval (wR h a k x) ad a T j = fval h ad a T j :=
  fval_eq (h := h) (h2 := wR h a k x) (ad := ad) (ad2 := ad) (b := a) (j := j) rfl rfl rfl (by rw [hR_wR, if_neg (fun z => hj z.2)]) T
abbrev FinOK (M : PM) (ci : Nat) (fin : Bool) : Prop := fin = true → (mY M).name = "<init>" ∧ ∃ T N, vwCl[ci]? = some ((mY M).cls, T, N)
theorem r_putI {idx ci k a : Nat} {fin : Bool} {t : Option Nat} {x : Int32} (hd : cd M pc = some (.putfield idx, 3)) (hf : FldOK M idx ci k .int fin) (hfin : FinOK M ci fin) (ht : t = some a) (hk : (hK h a).1 = ci) {h2 : PH} (he : h2 = wI h a k x) (kk : Run g M d (pc + 3) ls rest h2 r h') : Run g M d pc ls (.int x :: va_rf t :: rest) h r h' := by
  subst he
  exact r_put hd hf hfin ht hk (sb_wI h a k x) (fun ad => by show Value.int _ = Value.int _; rw [hI_wI, if_pos ⟨rfl, rfl⟩]) (fv_wI h a k x) (fun _ z j r hr => z a j r hr) (fun _ => rfl) (fun _ => rfl) kk
theorem r_putJ {idx ci k a : Nat} {fin : Bool} {t : Option Nat} {x : Int64} (hd : cd M pc = some (.putfield idx, 3)) (hf : FldOK M idx ci k .long fin) (hfin : FinOK M ci fin) (ht : t = some a) (hk : (hK h a).1 = ci) {h2 : PH} (he : h2 = wJ h a k x) (kk : Run g M d (pc + 3) ls rest h2 r h') : Run g M d pc ls (.long x :: va_rf t :: rest) h r h' := by
  subst he
  exact r_put hd hf hfin ht hk (sb_wJ h a k x) (fun ad => by show Value.long _ = Value.long _; rw [hJ_wJ, if_pos ⟨rfl, rfl⟩]) (fv_wJ h a k x) (fun _ z j r hr => z a j r hr) (fun _ => rfl) (fun _ => rfl) kk
/-- a number that is a truth -/
def isB (x : Int32) : Bool := x == 0 || x == 1
def tb (x : Int32) : Bool := x == 1
theorem bI_tb {x : Int32} (h : isB x = true) : bI (tb x) = x := by
  simp only [isB, Bool.or_eq_true, beq_iff_eq] at h
  rcases h with rfl | rfl <;> rfl
theorem tb_bI (b : Bool) : tb (bI b) = b := by cases b <;> rfl
theorem isB_bI (b : Bool) : isB (bI b) = true := by cases b <;> rfl
theorem nar_B {x : Int32} (h : isB x = true) : narrow .boolean (.int x) = .int x := by
  simp only [isB, Bool.or_eq_true, beq_iff_eq] at h
  rcases h with rfl | rfl <;> rfl
theorem fit_B {x : Int32} (h : isB x = true) : fits .boolean (.int x) = true := h
theorem r_putZ {idx ci k a : Nat} {fin : Bool} {t : Option Nat} {x : Int32} (hd : cd M pc = some (.putfield idx, 3)) (hf : FldOK M idx ci k .boolean fin) (hfin : FinOK M ci fin) (ht : t = some a) (hk : (hK h a).1 = ci) (hb : isB x = true) {h2 : PH} (he : h2 = wZ h a k (tb x)) (kk : Run g M d (pc + 3) ls rest h2 r h') : Run g M d pc ls (.int x :: va_rf t :: rest) h r h' := by
  subst he
  exact r_put hd hf hfin ht hk (sb_wZ h a k (tb x)) (fun ad => by show Value.int _ = Value.int _; rw [hZ_wZ, if_pos ⟨rfl, rfl⟩, bI_tb hb]) (fv_wZ h a k (tb x)) (fun _ z j r hr => z a j r hr) (fun _ => nar_B hb) (fun _ => fit_B hb) kk
theorem r_putR {idx ci k a : Nat} {ty : FieldType} {fin : Bool} {t x : Option Nat} (hd : cd M pc = some (.putfield idx, 3)) (hf : FldOK M idx ci k ty fin) (hty : (∃ n, ty = .object n) ∨ ∃ n, ty = .array n) (hfin : FinOK M ci fin) (ht : t = some a) (hk : (hK h a).1 = ci) {h2 : PH} (he : h2 = wR h a k x) (kk : Run g M d (pc + 3) ls rest h2 r h') : Run g M d pc ls (va_rf x :: va_rf t :: rest) h r h' := by
  subst he
  refine r_put hd hf hfin ht hk (sb_wR h a k x) (fun ad => ?_) (fv_wR h a k x) (fun hx z j q hq => ?_) (fun ad => ?_) (fun ad => ?_) kk
  · rw [sv_rf]
    rcases hty with ⟨n, rfl⟩ | ⟨n, rfl⟩ <;> (show va_rf _ = va_rf _; rw [hR_wR, if_pos ⟨rfl, rfl⟩])
  · rw [hR_wR] at hq
    split at hq
    · exact okv_rf' hx q hq
    · exact z a j q hq
  · rw [sv_rf]
    rcases hty with ⟨n, rfl⟩ | ⟨n, rfl⟩ <;> (cases x <;> rfl)
  · rw [sv_rf]
    rcases hty with ⟨n, rfl⟩ | ⟨n, rfl⟩ <;> (cases x <;> rfl)
/-- what an array's cell is, on the real machine -/
theorem St.arr {n0 : NA} {s0 : Nat} {st : List Value} {ad : Nat → Nat} {s : State} {H : Heap} {lsA : Array Slot} {locs : List Loc} {cells slots : Nat} {p : Program} {m : MethodId} {args : Array Value} {meth : Method} {c : Code} (C : Cx g M p s m args meth c) (S : St g M n0 s0 h ls st ad s H lsA locs cells slots) {a kd : Nat} (hn : a < hN h) (k1 : 20 ≤ kd) (k2 : kd < 26) (hk : (hK h a).1 = kd) : 6 ≤ a ∧ AA g (ad a) ∧ H[ad a]? = some (arrV (gA g kd) (hK h a).2 (acont h ad kd a)) ∧ s.isArrayOf (arrV (gA g kd) (hK h a).2 (acont h ad kd a)) (aty kd) ∧ va_RA s (gA g kd) (aty kd) := by
  have h6 := S.1.own (a := a) (by omega)
  have h7 := S.1.1 a h6 hn
  have h8 := C.2.2.2.2.2.2.2.2.2.2.1.2 _ _ (tys_at g k1 k2)
  exact ⟨h6, h7.1, h7.2.2.2.2 kd k1 k2 hk, h8.1 _ _, h8.2⟩
theorem inb_arr {i : Int32} {n : Nat} {cA : ClassId} {f : Nat → Value} (h : inb i n = true) : ¬ (i < 0 ∨ (arrV cA n f).slots.size ≤ i.toNatClampNeg) := by
  rw [arrV_size]; exact inb_in h
theorem inb_lt {i : Int32} {n : Nat} (h : inb i n = true) : ix i < n := by
  have h1 := inb_in h
  exact Nat.not_le.mp fun q => h1 (Or.inr q)
theorem inb_ge {i : Int32} {n : Nat} (h : inb i n = true) : ¬ i < 0 := fun q => inb_in h (Or.inl q)
theorem r_iald {a : Nat} {t : Option Nat} {i : Int32} (hd : cd M pc = some (.iaload, 1)) (ht : t = some a) (hk : (hK h a).1 = 20) (hi : inb i (hK h a).2 = true) (kk : Run g M d (pc + 1) ls (.int (hI h a (ix i)) :: rest) h r h') : Run g M d pc ls (.int i :: va_rf t :: rest) h r h' := by
  subst ht
  refine ⟨kk.1, ?_⟩
  intro p e R s m args below meth c QQ n0 s0 C hR' RO ad H lsA locs cells slots S
  obtain ⟨h6, hA, hc, harr, -⟩ := St.arr C S S.2.1.2.1 (by omega) (by omega) hk
  exact W.iald C.1 C.2.1 hc harr (fun q => by cases q) (inb_arr hi) (arrV_read _ _ (inb_lt hi)) rfl rfl (C.2.2.1.dec hd) (kk.2 p e R s m args below meth c QQ n0 s0 C hR' RO ad H lsA locs cells slots ⟨S.1, ⟨trivial, S.2.1.2.2⟩, S.2.2⟩)
theorem r_zald {a : Nat} {t : Option Nat} {i : Int32} (hd : cd M pc = some (.baload, 1)) (ht : t = some a) (hk : (hK h a).1 = 21) (hi : inb i (hK h a).2 = true) (kk : Run g M d (pc + 1) ls (.int (bI (hZ h a (ix i))) :: rest) h r h') : Run g M d pc ls (.int i :: va_rf t :: rest) h r h' := by
  subst ht
  refine ⟨kk.1, ?_⟩
  intro p e R s m args below meth c QQ n0 s0 C hR' RO ad H lsA locs cells slots S
  obtain ⟨h6, hA, hc, harr, -⟩ := St.arr C S S.2.1.2.1 (by omega) (by omega) hk
  exact W.zald C.1 C.2.1 hc harr (fun q => by cases q) (inb_arr hi) (arrV_read _ _ (inb_lt hi)) rfl rfl (C.2.2.1.dec hd) (kk.2 p e R s m args below meth c QQ n0 s0 C hR' RO ad H lsA locs cells slots ⟨S.1, ⟨trivial, S.2.1.2.2⟩, S.2.2⟩)
theorem r_bald {a : Nat} {t : Option Nat} {i : Int32} (hd : cd M pc = some (.baload, 1)) (ht : t = some a) (hk : (hK h a).1 = 22) (hi : inb i (hK h a).2 = true) (kk : Run g M d (pc + 1) ls (.int (hI h a (ix i)) :: rest) h r h') : Run g M d pc ls (.int i :: va_rf t :: rest) h r h' := by
  subst ht
  refine ⟨kk.1, ?_⟩
  intro p e R s m args below meth c QQ n0 s0 C hR' RO ad H lsA locs cells slots S
  obtain ⟨h6, hA, hc, harr, -⟩ := St.arr C S S.2.1.2.1 (by omega) (by omega) hk
  exact W.bald C.1 C.2.1 hc harr (fun q => by cases q) (inb_arr hi) (arrV_read _ _ (inb_lt hi)) rfl rfl (C.2.2.1.dec hd) (kk.2 p e R s m args below meth c QQ n0 s0 C hR' RO ad H lsA locs cells slots ⟨S.1, ⟨trivial, S.2.1.2.2⟩, S.2.2⟩)
theorem r_lald {a : Nat} {t : Option Nat} {i : Int32} (hd : cd M pc = some (.laload, 1)) (ht : t = some a) (hk : (hK h a).1 = 23) (hi : inb i (hK h a).2 = true) (kk : Run g M d (pc + 1) ls (.long (hJ h a (ix i)) :: rest) h r h') : Run g M d pc ls (.int i :: va_rf t :: rest) h r h' := by
  subst ht
  refine ⟨kk.1, ?_⟩
  intro p e R s m args below meth c QQ n0 s0 C hR' RO ad H lsA locs cells slots S
  obtain ⟨h6, hA, hc, harr, -⟩ := St.arr C S S.2.1.2.1 (by omega) (by omega) hk
  exact W.lald C.1 C.2.1 hc harr (fun q => by cases q) (inb_arr hi) (arrV_read _ _ (inb_lt hi)) rfl rfl (C.2.2.1.dec hd) (kk.2 p e R s m args below meth c QQ n0 s0 C hR' RO ad H lsA locs cells slots ⟨S.1, ⟨trivial, S.2.1.2.2⟩, S.2.2⟩)
theorem r_aald {a kd : Nat} {t : Option Nat} {i : Int32} (hd : cd M pc = some (.aaload, 1)) (hkd : kd = 24 ∨ kd = 25) (ht : t = some a) (hk : (hK h a).1 = kd) (hi : inb i (hK h a).2 = true) (kk : Run g M d (pc + 1) ls (va_rf (hR h a (ix i)) :: rest) h r h') : Run g M d pc ls (.int i :: va_rf t :: rest) h r h' := by
  subst ht
  refine ⟨kk.1, ?_⟩
  intro p e R s m args below meth c QQ n0 s0 C hR' RO ad H lsA locs cells slots S
  obtain ⟨h6, hA, hc, harr, -⟩ := St.arr C S S.2.1.2.1 (by omega) (by omega) hk
  have k2 := kk.2 p e R s m args below meth c QQ n0 s0 C hR' RO ad H lsA locs cells slots ⟨S.1, ⟨okv_rf fun q hq => S.1.2.2.2.2.1 a _ q hq, S.2.1.2.2⟩, S.2.2⟩
  rcases hkd with rfl | rfl
  · exact W.aald C.1 C.2.1 hc harr rfl (fun q => by cases q) (inb_arr hi) (arrV_read _ _ (inb_lt hi)) rfl rfl (C.2.2.1.dec hd) (by rw [sL, sv_rf] at k2; exact k2)
  · exact W.aald C.1 C.2.1 hc harr rfl (fun q => by cases q) (inb_arr hi) (arrV_read _ _ (inb_lt hi)) rfl rfl (C.2.2.1.dec hd) (by rw [sL, sv_rf] at k2; exact k2)
theorem r_alen {a kd : Nat} {t : Option Nat} (hd : cd M pc = some (.arraylength, 1)) (k1 : 20 ≤ kd) (k2 : kd < 26) (ht : t = some a) (hk : (hK h a).1 = kd) (kk : Run g M d (pc + 1) ls (.int (Int32.ofNat (hK h a).2) :: rest) h r h') : Run g M d pc ls (va_rf t :: rest) h r h' := by
  subst ht
  refine ⟨kk.1, ?_⟩
  intro p e R s m args below meth c QQ n0 s0 C hR' RO ad H lsA locs cells slots S
  obtain ⟨h6, hA, hc, harr, -⟩ := St.arr C S S.2.1.1 k1 k2 hk
  exact W.alen (n := Int32.ofNat (hK h a).2) C.1 C.2.1 hc harr (by rw [arrV_size] <;> rfl) rfl rfl (C.2.2.1.dec hd) (kk.2 p e R s m args below meth c QQ n0 s0 C hR' RO ad H lsA locs cells slots ⟨S.1, ⟨trivial, S.2.1.2⟩, S.2.2⟩)
/-- behind a store into an array -/
theorem St.ast {n0 : NA} {s0 : Nat} {st st2 : List Value} {ad : Nat → Nat} {s : State} {H H1 : Heap} {lsA : Array Slot} {locs : List Loc} {cells slots : Nat} (S : St g M n0 s0 h ls st ad s H lsA locs cells slots) {a kd i : Nat} {v : Value} {h2 : PH} (h6 : 6 ≤ a) (hn : a < hN h) (hA : AA g (ad a)) (k1 : 20 ≤ kd) (hk : (hK h a).1 = kd) (hs : SameBut h h2 a)
    (hv : ∀ j, acont h2 ad kd a j = if j = i then v else acont h ad kd a j) (hr : ∀ j r, hR h2 a j = some r → r < hN h) (ho : okL (hN h) st2) (e : H1[ad a]? = some ((arrV (gA g kd) (hK h a).2 (acont h ad kd a)).setSlot i v)) (z : H1.size = H.size) (oq : ∀ q, q ≠ ad a → H1[q]? = H[q]?) : St g M n0 s0 h2 ls st2 ad s H1 lsA (locs ++ [⟨ad a, i⟩]) cells slots := by
  have hc2 : CellR g ad h2 H1 a := by
    refine ⟨fun ci r z1 z2 => ?_, fun kd' k1' k2' k3 => ?_⟩
    · rw [hs.2.2.1, hk] at z1
      have := ci_lt z2
      omega
    · rw [hs.2.2.1, hk] at k3
      subst k3
      rw [e, arrV_store, hs.2.2.1]
      congr 2
      funext j
      rw [hv j]
      by_cases hj : j = i
      · subst hj; simp [updV]
      · simp [updV, hj]
  refine ⟨S.1.put h6 hn hs hr z oq hc2, ?_, ?_, S.2.2.2.1, S.2.2.2.2.1.put z oq hA, ?_⟩
  · rw [hs.1]; exact ho
  · rw [hs.1]; exact S.2.2.1
  · rw [hs.1, hs.2.1.1, hs.2.1.2]; exact S.2.2.2.2.2
theorem r_iast {a : Nat} {t : Option Nat} {i x : Int32} (hd : cd M pc = some (.iastore, 1)) (ht : t = some a) (hk : (hK h a).1 = 20) (hi : inb i (hK h a).2 = true) {h2 : PH} (he : h2 = wI h a (ix i) x) (kk : Run g M d (pc + 1) ls rest h2 r h') : Run g M d pc ls (.int x :: .int i :: va_rf t :: rest) h r h' := by
  subst he
  subst ht
  refine ⟨kk.1, ?_⟩
  intro p e R s m args below meth c QQ n0 s0 C hR' RO ad H lsA locs cells slots S
  have hn : a < hN h := S.2.1.2.2.1
  obtain ⟨h6, hA, hc, harr, -⟩ := St.arr C S hn (by omega) (by omega) hk
  refine W.iast C.1 C.2.1 hc harr (fun q => by cases q) (inb_arr hi) rfl rfl (C.2.2.1.dec hd) fun H1 e1 z oq => ?_
  refine kk.2 p e R s m args below meth c QQ n0 s0 C hR' RO ad H1 lsA _ cells slots (St.ast S h6 hn hA (by omega) hk (sb_wI h a (ix i) x) (fun j => ?_) (fun j r hr => S.1.2.2.2.2.1 a j r hr) S.2.1.2.2.2 e1 z oq)
  show Value.int _ = if j = ix i then _ else _
  rw [hI_wI]
  by_cases hj : j = ix i
  · subst hj; simp [ix]
  · rw [if_neg (fun z => hj z.2), if_neg (fun z => hj z)]; rfl
theorem r_bast {a : Nat} {t : Option Nat} {i x : Int32} (hd : cd M pc = some (.bastore, 1)) (ht : t = some a) (hk : (hK h a).1 = 22) (hi : inb i (hK h a).2 = true) {h2 : PH} (he : h2 = wI h a (ix i) x.toInt8.toInt32) (kk : Run g M d (pc + 1) ls rest h2 r h') : Run g M d pc ls (.int x :: .int i :: va_rf t :: rest) h r h' := by
  subst he
  subst ht
  refine ⟨kk.1, ?_⟩
  intro p e R s m args below meth c QQ n0 s0 C hR' RO ad H lsA locs cells slots S
  have hn : a < hN h := S.2.1.2.2.1
  obtain ⟨h6, hA, hc, harr, -⟩ := St.arr C S hn (by omega) (by omega) hk
  refine W.bast C.1 C.2.1 hc harr (fun q => by cases q) (inb_arr hi) rfl rfl (C.2.2.1.dec hd) fun H1 e1 z oq => ?_
  refine kk.2 p e R s m args below meth c QQ n0 s0 C hR' RO ad H1 lsA _ cells slots (St.ast S h6 hn hA (by omega) hk (sb_wI h a (ix i) x.toInt8.toInt32) (fun j => ?_) (fun j r hr => S.1.2.2.2.2.1 a j r hr) S.2.1.2.2.2 e1 z oq)
  show Value.int _ = if j = ix i then _ else _
  rw [hI_wI]
  by_cases hj : j = ix i
  · subst hj; simp [ix]; rfl
  · rw [if_neg (fun z => hj z.2), if_neg (fun z => hj z)]; rfl
theorem r_zast {a : Nat} {t : Option Nat} {i x : Int32} (hd : cd M pc = some (.bastore, 1)) (ht : t = some a) (hk : (hK h a).1 = 21) (hi : inb i (hK h a).2 = true) (hb : isB x = true) {h2 : PH} (he : h2 = wZ h a (ix i) (tb x)) (kk : Run g M d (pc + 1) ls rest h2 r h') : Run g M d pc ls (.int x :: .int i :: va_rf t :: rest) h r h' := by
  subst he
  subst ht
  refine ⟨kk.1, ?_⟩
  intro p e R s m args below meth c QQ n0 s0 C hR' RO ad H lsA locs cells slots S
  have hn : a < hN h := S.2.1.2.2.1
  obtain ⟨h6, hA, hc, harr, -⟩ := St.arr C S hn (by omega) (by omega) hk
  refine W.zast C.1 C.2.1 hc harr (fun q => by cases q) (inb_arr hi) rfl rfl (C.2.2.1.dec hd) fun H1 e1 z oq => ?_
  rw [nar_B hb] at e1
  refine kk.2 p e R s m args below meth c QQ n0 s0 C hR' RO ad H1 lsA _ cells slots (St.ast S h6 hn hA (by omega) hk (sb_wZ h a (ix i) (tb x)) (fun j => ?_) (fun j r hr => S.1.2.2.2.2.1 a j r hr) S.2.1.2.2.2 e1 z oq)
  show Value.int _ = if j = ix i then _ else _
  rw [hZ_wZ]
  by_cases hj : j = ix i
  · subst hj; simp [ix, bI_tb hb]
  · rw [if_neg (fun z => hj z.2), if_neg (fun z => hj z)]; rfl
theorem r_last {a : Nat} {t : Option Nat} {i : Int32} {x : Int64} (hd : cd M pc = some (.lastore, 1)) (ht : t = some a) (hk : (hK h a).1 = 23) (hi : inb i (hK h a).2 = true) {h2 : PH} (he : h2 = wJ h a (ix i) x) (kk : Run g M d (pc + 1) ls rest h2 r h') : Run g M d pc ls (.long x :: .int i :: va_rf t :: rest) h r h' := by
  subst he
  subst ht
  refine ⟨kk.1, ?_⟩
  intro p e R s m args below meth c QQ n0 s0 C hR' RO ad H lsA locs cells slots S
  have hn : a < hN h := S.2.1.2.2.1
  obtain ⟨h6, hA, hc, harr, -⟩ := St.arr C S hn (by omega) (by omega) hk
  refine W.last C.1 C.2.1 hc harr (fun q => by cases q) (inb_arr hi) rfl rfl (C.2.2.1.dec hd) fun H1 e1 z oq => ?_
  refine kk.2 p e R s m args below meth c QQ n0 s0 C hR' RO ad H1 lsA _ cells slots (St.ast S h6 hn hA (by omega) hk (sb_wJ h a (ix i) x) (fun j => ?_) (fun j r hr => S.1.2.2.2.2.1 a j r hr) S.2.1.2.2.2 e1 z oq)
  show Value.long _ = if j = ix i then _ else _
  rw [hJ_wJ]
  by_cases hj : j = ix i
  · subst hj; simp [ix]
  · rw [if_neg (fun z => hj z.2), if_neg (fun z => hj z)]; rfl
/-- a reference into an array of references: an object of the array's own class -/
theorem r_aast {a kd ci : Nat} {t : Option Nat} {i : Int32} {v : Nat} (hd : cd M pc = some (.aastore, 1)) (hkd : kd = 24 ∧ ci = 3 ∨ kd = 25 ∧ ci = 1) (ht : t = some a) (hk : (hK h a).1 = kd) (hi : inb i (hK h a).2 = true) (hv : (hK h v).1 = ci) {h2 : PH} (he : h2 = wR h a (ix i) (some v)) (kk : Run g M d (pc + 1) ls rest h2 r h') : Run g M d pc ls (va_rf (some v) :: .int i :: va_rf t :: rest) h r h' := by
  subst he
  subst ht
  refine ⟨kk.1, ?_⟩
  intro p e R s m args below meth c QQ n0 s0 C hR' RO ad H lsA locs cells slots S
  have hn : a < hN h := S.2.1.2.2.1
  have hnv : v < hN h := S.2.1.1
  have k1 : 20 ≤ kd := by rcases hkd with ⟨z, -⟩ | ⟨z, -⟩ <;> omega
  have k2 : kd < 26 := by rcases hkd with ⟨z, -⟩ | ⟨z, -⟩ <;> omega
  obtain ⟨h6, hA, hc, harr, hra⟩ := St.arr C S hn k1 k2 hk
  obtain ⟨rr, hrr, hat⟩ : ∃ rr : vw_C, vwCl[ci]? = some rr ∧ aty kd = .object rr.1 := by
    rcases hkd with ⟨rfl, rfl⟩ | ⟨rfl, rfl⟩
    · exact ⟨_, rfl, rfl⟩
    · exact ⟨_, rfl, rfl⟩
  have h6v := S.1.own (a := v) (by rw [hv]; have := ci_lt hrr; omega)
  obtain ⟨cellV, g1, g2, g3, -⟩ := (S.1.1 v h6v hnv).2.2.2.1 ci rr hv hrr
  have hcls := (C.2.2.2.2.2.2.2.2.2.2.1.1 ci rr hrr).2
  rw [hat] at hra
  obtain ⟨kA, comp, z1, z2, z3, -⟩ := hra
  have hcomp : comp = gC g ci := Option.some.inj (z3.symm.trans hcls.1)
  subst hcomp
  obtain ⟨kC, hkC, -⟩ := hcls.2
  refine W.aast C.1 C.2.1 hc (fun q h => by cases h) (fun h => by cases h) z1 z2 rfl hkC ⟨inb_ge hi, by rw [arrV_size]; exact inb_lt hi⟩ g1 (fun q h => by rw [g3] at h; cases h) (by rw [g2]; exact hkC) (by rw [g2]; exact va_assign hcls) rfl rfl (C.2.2.1.dec hd) fun H1 e1 z oq => ?_
  refine kk.2 p e R s m args below meth c QQ n0 s0 C hR' RO ad H1 lsA _ cells slots (St.ast S h6 hn hA k1 hk (sb_wR h a (ix i) (some v)) (fun j => ?_) (fun j r hr => ?_) S.2.1.2.2.2 e1 z oq)
  · rcases hkd with ⟨rfl, -⟩ | ⟨rfl, -⟩ <;>
    · show va_rf _ = if j = ix i then _ else _
      rw [hR_wR]
      by_cases hj : j = ix i
      · subst hj; simp [ix, va_rf]
      · rw [if_neg (fun z => hj z.2), if_neg (fun z => hj z)]; rfl
  · rw [hR_wR] at hr
    split at hr
    · cases hr; exact hnv
    · exact S.1.2.2.2.2.1 a j r hr
end HR
