/-! THE PURE PROOFS, 73: one state of the whole, as the class keeps it and as the reference does. -/
def Ev : Type := Nat × (Nat → Int) × (Nat → Int)
def Mk : Type := (Nat → Bool) × (Nat → Nat → Int) × (Nat → Ev)
/-- tape; house; night; evening; what can be undone; marks -/
def Gs : Type := ((Nat → Int) × Nat) × ((Nat → Int) × (Nat → Int) × (Nat → Ex)) × (Nat → Int) × Ev × (Nat × (Nat → Nat → Int)) × Mk
def gsT (g : Gs) : Nat → Int := g.1.1
def gsL (g : Gs) : Nat := g.1.2
def gsH (g : Gs) : Nat → Int := g.2.1.1
def gsC (g : Gs) : Nat → Int := g.2.1.2.1
def gsE (g : Gs) : Nat → Ex := g.2.1.2.2
def gsN (g : Gs) : Nat → Int := g.2.2.1
def gsV (g : Gs) : Ev := g.2.2.2.1
def gsU (g : Gs) : Nat × (Nat → Nat → Int) := g.2.2.2.2.1
def gsM (g : Gs) : Mk := g.2.2.2.2.2
def gsm (g : Gs) : Nat := (gsH g 15).toNat
def mkG (T : Nat → Int) (L : Nat) (H C : Nat → Int) (E : Nat → Ex) (n : Nat → Int) (ev : Ev) (us : Nat × (Nat → Nat → Int)) (mk : Mk) : Gs := ((T, L), (H, C, E), n, ev, us, mk)
def EvOK (v : Ev) : Prop := v.1 ≤ 60 ∧ ∀ i, i < v.1 → (16 ≤ v.2.1 i ∧ v.2.1 i ≤ 19) ∧ (0 ≤ v.2.2 i ∧ v.2.2 i ≤ 4)
def EsOK (m : Nat) (E : Nat → Ex) : Prop := (catP E m).length ≤ 1000 ∧ (catI E m).length ≤ 1000 ∧ ∀ i, i < m → ∃ T L a b, orR T L (ptR T L 7) 0 a = .inr (b, E i)
def GOK (g : Gs) : Prop := HOK (gsH g) (gsC g) ∧ EsOK (gsm g) (gsE g) ∧ NOK (gsH g) (gsN g) ∧ EvOK (gsV g) ∧ ((gsU g).1 ≤ 16 ∧ ∀ i, i < (gsU g).1 → NOK (gsH g) ((gsU g).2 i)) ∧ ∀ i, i < 4 → (gsM g).1 i = true → NOK (gsH g) ((gsM g).2.1 i) ∧ EvOK ((gsM g).2.2 i)
/-! ### the class -/
def EvAt (b : Nat) (v : Ev) (h : PH) : Prop := hI h b 2 = iv v.1 ∧ ∀ i, i < v.1 → hI h (b + 1) i = iv (v.2.1 i) ∧ hI h (b + 2) i = iv (v.2.2 i)
def HouL (m : Nat) (H C : Nat → Int) (E : Nat → Ex) (h : PH) : Prop := HsL 10 H C h ∧ (∀ k, k < (catP E m).length → hI h 14 k = iv ((catP E m).getD k 0)) ∧ ∀ i, i < m → hI h 15 i = iv ((catP E (i + 1)).length : Nat)
def UnL (us : Nat × (Nat → Nat → Int)) (h : PH) : Prop := ∃ p : Nat, p < 16 ∧ hI h 6 9 = iv p ∧ hI h 6 10 = iv us.1 ∧ ∀ i, i < us.1 → NtL (56 + (p + 16 - us.1 + i) % 16) (us.2 i) h
def MkL (mk : Mk) (h : PH) : Prop := ∀ i, i < 4 → hZ h (72 + 5 * i) 2 = mk.1 i ∧ (mk.1 i = true → NtL (73 + 5 * i) (mk.2.1 i) h ∧ EvAt (74 + 5 * i) (mk.2.2 i) h)
def RestL (g : Gs) (h : PH) : Prop := TxL (gsT g) (gsL g) h ∧ hI h 17 0 = iv 0 ∧ HouL (gsm g) (gsH g) (gsC g) (gsE g) h ∧ NtL 32 (gsN g) h ∧ EvAt 22 (gsV g) h ∧ UnL (gsU g) h ∧ MkL (gsM g) h
theorem NtL.cg {a : Nat} {n : Nat → Int} {h h2 : PH} (x : NtL a n h) (e1 : hI h2 a = hI h a) (e2 : hZ h2 a = hZ h a) : NtL a n h2 := by
  unfold NtL at x ⊢
  rw [e1, e2]
  exact x
theorem HsL.cg {b : Nat} {H C : Nat → Int} {h h2 : PH} (x : HsL b H C h) (e0 : hI h2 b = hI h b) (e1 : hI h2 (b + 1) = hI h (b + 1)) (e2 : hI h2 (b + 2) = hI h (b + 2)) (e3 : hI h2 (b + 3) = hI h (b + 3)) : HsL b H C h2 := by
  unfold HsL at x ⊢
  rw [e0, e1, e2, e3]
  exact x
theorem EvAt.cg {b : Nat} {v : Ev} {h h2 : PH} (x : EvAt b v h) (e0 : hI h2 b = hI h b) (e1 : hI h2 (b + 1) = hI h (b + 1)) (e2 : hI h2 (b + 2) = hI h (b + 2)) : EvAt b v h2 := by
  unfold EvAt at x ⊢
  rw [e0, e1, e2]
  exact x
theorem TxL.cg {T : Nat → Int} {L : Nat} {h h2 : PH} (x : TxL T L h) (s : Shp h2) (k3 : hK h2 3 = hK h 3) (k4 : hK h2 4 = hK h 4) (r3 : hR h2 3 = hR h 3) (e3 : hI h2 3 = hI h 3) (e4 : hI h2 4 = hI h 4) (e7 : hI h2 7 1 = hI h 7 1) (e8 : hI h2 8 = hI h 8) (e9 : hJ h2 9 = hJ h 9) : TxL T L h2 := by
  obtain ⟨-, t, a, b, c, d, e⟩ := x
  refine ⟨s, ?_, a, b, e7.trans c, fun k hk => by rw [e8]; exact d k hk, fun i hi => by rw [e9]; exact e i hi⟩
  unfold TextF at t ⊢
  rw [k3, k4, r3, e3, e4]
  exact t
def LowL (b : Nat) : Prop := b ≤ 35 ∨ (56 ≤ b ∧ b ≤ 91)
theorem UnL.cg {us : Nat × (Nat → Nat → Int)} {h h2 : PH} (x : UnL us h) (e6 : hI h2 6 = hI h 6) (e : ∀ b, 56 ≤ b → b ≤ 71 → hI h2 b = hI h b ∧ hZ h2 b = hZ h b) : UnL us h2 := by
  obtain ⟨p, a, b, c, d⟩ := x
  refine ⟨p, a, by rw [e6]; exact b, by rw [e6]; exact c, fun i hi => ?_⟩
  have z := e (56 + (p + 16 - us.1 + i) % 16) (by omega) (by omega)
  exact (d i hi).cg z.1 z.2
theorem MkL.cg {mk : Mk} {h h2 : PH} (x : MkL mk h) (e : ∀ b, 72 ≤ b → b ≤ 91 → hI h2 b = hI h b ∧ hZ h2 b = hZ h b) : MkL mk h2 := fun i hi => ⟨by rw [(e (72 + 5 * i) (by omega) (by omega)).2]; exact (x i hi).1, fun z => ⟨((x i hi).2 z).1.cg (e _ (by omega) (by omega)).1 (e _ (by omega) (by omega)).2, ((x i hi).2 z).2.cg (e _ (by omega) (by omega)).1 (e _ (by omega) (by omega)).1 (e _ (by omega) (by omega)).1⟩⟩
theorem HouL.cg {m : Nat} {H C : Nat → Int} {E : Nat → Ex} {h h2 : PH} (x : HouL m H C E h) (e : ∀ b, 10 ≤ b → b ≤ 15 → hI h2 b = hI h b) : HouL m H C E h2 := ⟨x.1.cg (e _ (by omega) (by omega)) (e _ (by omega) (by omega)) (e _ (by omega) (by omega)) (e _ (by omega) (by omega)), fun k hk => by rw [e 14 (by omega) (by omega)]; exact x.2.1 k hk, fun i hi => by rw [e 15 (by omega) (by omega)]; exact x.2.2 i hi⟩
theorem RestL.cg {g : Gs} {h h2 : PH} (x : RestL g h) (s : Shp h2) (k3 : hK h2 3 = hK h 3) (k4 : hK h2 4 = hK h 4) (r3 : hR h2 3 = hR h 3) (e : ∀ b, LowL b → hI h2 b = hI h b ∧ hJ h2 b = hJ h b ∧ hZ h2 b = hZ h b) : RestL g h2 := by
  obtain ⟨a, b, c, d, f, i, j⟩ := x
  have l : ∀ b, LowL b → hI h2 b = hI h b := fun b hb => (e b hb).1
  refine ⟨a.cg s k3 k4 r3 (l 3 (by unfold LowL; omega)) (l 4 (by unfold LowL; omega)) (by rw [l 7 (by unfold LowL; omega)]) (l 8 (by unfold LowL; omega)) (e 9 (by unfold LowL; omega)).2.1, by rw [l 17 (by unfold LowL; omega)]; exact b, c.cg (fun b _ _ => l b (by unfold LowL; omega)), d.cg (l 32 (by unfold LowL; omega)) (e 32 (by unfold LowL; omega)).2.2, f.cg (l 22 (by unfold LowL; omega)) (l _ (by unfold LowL; omega)) (l _ (by unfold LowL; omega)), i.cg (l 6 (by unfold LowL; omega)) (fun b _ _ => ⟨l b (by unfold LowL; omega), (e b (by unfold LowL; omega)).2.2⟩), j.cg (fun b _ _ => ⟨l b (by unfold LowL; omega), (e b (by unfold LowL; omega)).2.2⟩)⟩
theorem RestL.frH {g : Gs} {h h2 : PH} {S : Nat → Prop} (x : RestL g h) (f : FrH S h h2) (hn : 127 ≤ hN h) (n : ∀ b, LowL b → ¬ S b) : RestL g h2 := x.cg (f.1 x.1.1) (f.2.2.2.1 3 (by omega)) (f.2.2.2.1 4 (by omega)) (f.R (by omega) (n 3 (by unfold LowL; omega))) (fun b hb => ⟨f.I (by unfold LowL at hb; omega) (n b hb), f.J (by unfold LowL at hb; omega) (n b hb), f.Z (by unfold LowL at hb; omega) (n b hb)⟩)
theorem RestL.frS {g : Gs} {h h2 : PH} {S : Nat → Prop} (x : RestL g h) (f : FrS S h h2) (n : ∀ b, LowL b → ¬ S b) : RestL g h2 := x.cg (f.shp x.1.1) (by rw [f.2.1]) (by rw [f.2.1]) (by rw [f.2.2.1]) (fun b hb => f.2.2.2 b (n b hb))
theorem RestL.hab {N : Nat} {g : Gs} {h : PH} (hN : 1100 ≤ N) (x : RestL g h) (k : GOK g) : HabL N (gsH g) (EvE (gsE g) (gsH g)) h := by
  have h15 : 0 ≤ gsH g 15 ∧ gsH g 15 ≤ 4 := k.1.2.2.2.2.2.2.2.2.2.2.2.2.2.2.2.1
  obtain ⟨e1, e2, e3⟩ := k.2.1
  have em : ((gsm g : Nat) : Int) = gsH g 15 := by unfold gsm; omega
  refine habLof (m := gsm g) hN em.symm (by omega) x.2.2.1.1.1 ⟨fun i => (catP (gsE g) i).length, rfl, fun i hi => ?_⟩
  obtain ⟨l, el⟩ := catP_mono (E := gsE g) (i + 1) (gsm g) (by omega)
  have ln : (catP (gsE g) (gsm g)).length = (catP (gsE g) (i + 1)).length + l.length := by rw [el, List.length_append]
  have lc : (catP (gsE g) (i + 1)).length = (catP (gsE g) i).length + (post (gsE g i)).length := by rw [catP, List.length_append]
  obtain ⟨T, L, a, b, eo⟩ := e3 i hi
  have l1000 : (catP (gsE g) (i + 1)).length ≤ 1000 := by omega
  refine ⟨x.2.2.1.2.2 i hi, lc, l1000, fun j hj => ?_, orR_ind (evClP N) eo⟩
  have z := x.2.2.1.2.1 ((catP (gsE g) i).length + j) (by omega)
  show hI h 14 ((catP (gsE g) i).length + j) = _
  rw [z, el, catP, List.getD_eq_getElem?_getD, List.getD_eq_getElem?_getD, List.append_assoc, List.getElem?_append_right (by omega), List.getElem?_append_left (by omega)]
  congr 3
  omega
/-! ### the reference -/
def EvMt (x : Nat) (v : Ev) (h : PH) : Prop := hI h 113 x = iv v.1 ∧ ∀ i, i < v.1 → hI h 114 (60 * x + i) = iv (v.2.1 i - 16) ∧ (v.2.1 i ≤ 17 → hI h 115 (60 * x + i) = iv (v.2.2 i))
def HouM (m : Nat) (H C : Nat → Int) (E : Nat → Ex) (h : PH) : Prop := HsM H C h ∧ (∀ k, k < (catI E m).length → hI h 100 k = iv ((catI E m).getD k 0)) ∧ ∀ i, i < m → hI h 98 i = iv ((catI E i).length : Nat) ∧ hI h 99 i = iv ((catI E (i + 1)).length : Nat)
def UnM (us : Nat × (Nat → Nat → Int)) (h : PH) : Prop := hI h 92 40 = iv us.1 ∧ ∀ i, i < us.1 → ∀ k, k < 14 → hI h 119 (14 * i + k) = iv (us.2 i k)
def MkM (mk : Mk) (h : PH) : Prop := ∀ i, i < 4 → hZ h 120 i = mk.1 i ∧ (mk.1 i = true → (∀ k, k < 14 → hI h 118 (14 * i + k) = iv (mk.2.1 i k)) ∧ EvMt (1 + i) (mk.2.2 i) h)
def RestM (g : Gs) (h : PH) : Prop := Tx0 (gsT g) (gsL g) h ∧ HouM (gsm g) (gsH g) (gsC g) (gsE g) h ∧ NtM (gsN g) h ∧ EvMt 0 (gsV g) h ∧ UnM (gsU g) h ∧ MkM (gsM g) h
theorem EvMt.cg {x : Nat} {v : Ev} {h h2 : PH} (k : EvMt x v h) (e0 : hI h2 113 = hI h 113) (e1 : hI h2 114 = hI h 114) (e2 : hI h2 115 = hI h 115) : EvMt x v h2 := by
  unfold EvMt at k ⊢
  rw [e0, e1, e2]
  exact k
def LowM (b : Nat) : Prop := (93 ≤ b ∧ b ≤ 100) ∨ (113 ≤ b ∧ b ≤ 116) ∨ (118 ≤ b ∧ b ≤ 120)
theorem RestM.cg {g : Gs} {h h2 : PH} (x : RestM g h) (s : Shp h2) (e : ∀ b, LowM b → hI h2 b = hI h b ∧ hZ h2 b = hZ h b) (e1 : hI h2 92 1 = hI h 92 1) (e40 : hI h2 92 40 = hI h 92 40) : RestM g h2 := by
  obtain ⟨⟨-, t1, t2, t3, t4⟩, b, c, d, f, i⟩ := x
  have l : ∀ b, LowM b → hI h2 b = hI h b := fun b hb => (e b hb).1
  refine ⟨⟨s, t1, t2, e1.trans t3, fun k hk => by rw [l 93 (by unfold LowM; omega)]; exact t4 k hk⟩, ⟨⟨fun k hk => by rw [l 94 (by unfold LowM; omega)]; exact b.1.1 k hk, fun k hk => by rw [l 95 (by unfold LowM; omega)]; exact b.1.2 k hk⟩, fun k hk => by rw [l 100 (by unfold LowM; omega)]; exact b.2.1 k hk, fun k hk => by rw [l 98 (by unfold LowM; omega), l 99 (by unfold LowM; omega)]; exact b.2.2 k hk⟩, fun k hk => by rw [l 116 (by unfold LowM; omega)]; exact c k hk, d.cg (l 113 (by unfold LowM; omega)) (l 114 (by unfold LowM; omega)) (l 115 (by unfold LowM; omega)), ⟨e40.trans f.1, fun k hk j hj => by rw [l 119 (by unfold LowM; omega)]; exact f.2 k hk j hj⟩, fun k hk => ⟨by rw [(e 120 (by unfold LowM; omega)).2]; exact (i k hk).1, fun z => ⟨fun j hj => by rw [l 118 (by unfold LowM; omega)]; exact ((i k hk).2 z).1 j hj, ((i k hk).2 z).2.cg (l 113 (by unfold LowM; omega)) (l 114 (by unfold LowM; omega)) (l 115 (by unfold LowM; omega))⟩⟩⟩
theorem RestM.hab {N : Nat} {g : Gs} {h : PH} (hN : 3000 ≤ N) (x : RestM g h) (k : GOK g) : HabM N (gsH g) (EvE (gsE g) (gsH g)) h := by
  have h15 : 0 ≤ gsH g 15 ∧ gsH g 15 ≤ 4 := k.1.2.2.2.2.2.2.2.2.2.2.2.2.2.2.2.1
  obtain ⟨e1, e2, e3⟩ := k.2.1
  have em : ((gsm g : Nat) : Int) = gsH g 15 := by unfold gsm; omega
  refine habMof (m := gsm g) hN em.symm (by omega) (x.2.1.1.1 0 (by omega)) (fun i hi => ?_)
  obtain ⟨l, el⟩ := catI_mono (E := gsE g) (i + 1) (gsm g) (by omega)
  have ln : (catI (gsE g) (gsm g)).length = (catI (gsE g) (i + 1)).length + l.length := by rw [el, List.length_append]
  have lc : (catI (gsE g) (i + 1)).length = (catI (gsE g) i).length + (infx (gsE g i)).length := by rw [catI, List.length_append]
  obtain ⟨T, L, a, b, eo⟩ := e3 i hi
  refine ⟨(catI (gsE g) i).length, (catI (gsE g) (i + 1)).length, (x.2.1.2.2 i hi).1, (x.2.1.2.2 i hi).2, lc, by omega, fun j hj => ?_, orR_ind (evClM (by omega)) eo, orR_ind vluClP eo⟩
  have z := x.2.1.2.1 ((catI (gsE g) i).length + j) (by omega)
  rw [z, el, catI, List.getD_eq_getElem?_getD, List.getD_eq_getElem?_getD, List.append_assoc, List.getElem?_append_right (by omega), List.getElem?_append_left (by omega)]
  congr 3
  omega
