/-! THE PURE PROOFS, 11: the reference's tables, laid (the loops printed by a program of mine). -/
/-- rows above q are f's -/
def AboveF (H : Nat → Int) (f : Int → Int → Int → Int → Int) (q : Int) (h : PH) : Prop := ∀ q2 : Int, q < q2 → q2 ≤ H 0 → RowM H (f q2) q2 h
def DoneF (H : Nat → Int) (f : Int → Int → Int → Int → Int) (q t a : Int) (h : PH) : Prop := ∀ t2 a2 w : Int, 0 ≤ t2 → t2 ≤ H 1 → 0 ≤ a2 → a2 ≤ H 2 → (w = 0 ∨ w = 1) → (t2 < t ∨ (t2 = t ∧ a2 < a)) → hI h 121 (plM q t2 a2 w).toNat = iv (f q t2 a2 w)
theorem AboveF.upd {H C : Nat → Int} {f : Int → Int → Int → Int → Int} {q t a w : Int} {h h2 : PH} {x : Int32} (ab : AboveF H f q h) (hq : 0 ≤ q ∧ q ≤ H 0) (ht : 0 ≤ t ∧ t ≤ H 1) (ha : 0 ≤ a ∧ a ≤ H 2) (hw : 0 ≤ w ∧ w ≤ 1) (r : ∀ i, hI h2 121 i = if i = (plM q t a w).toNat then x else hI h 121 i) (ho : HOK H C) : AboveF H f q h2 := by
  have h01 := ho.1
  have h11 := ho.2.1
  have h21 := ho.2.2.1
  intro q2 b0 b1 t2 a2 w2 b2 b3 b4 b5 b6
  have p1 := plM_b (q := q) (t := t) (a := a) (w := w) (by omega) (by omega) (by omega) hw
  have p2 := plM_b (q := q2) (t := t2) (a := a2) (w := w2) (by omega) (by omega) (by omega) (by omega)
  rw [r, if_neg]
  · exact ab q2 b0 b1 t2 a2 w2 b2 b3 b4 b5 b6
  · intro e
    have := (plM_inj (q := q2) (t := t2) (a := a2) (w := w2) (q2 := q) (t2 := t) (a2 := a) (w2 := w) (by omega) (by omega) (by omega) (by omega) (by omega) hw (by omega)).1
    omega
theorem DoneF.upd {H C : Nat → Int} {f : Int → Int → Int → Int → Int} {q t a : Int} {h h1 h2 : PH} (d : DoneF H f q t a h) (hq : 0 ≤ q ∧ q ≤ H 0) (ht : 0 ≤ t ∧ t ≤ H 1) (ha : 0 ≤ a ∧ a ≤ H 2) (r1 : ∀ i, hI h1 121 i = if i = (plM q t a 0).toNat then iv (f q t a 0) else hI h 121 i) (r2 : ∀ i, hI h2 121 i = if i = (plM q t a (0 + 1)).toNat then iv (f q t a (0 + 1)) else hI h1 121 i) (ho : HOK H C) : DoneF H f q t (a + 1) h2 := by
  have h01 := ho.1
  have h11 := ho.2.1
  have h21 := ho.2.2.1
  intro t2 a2 w2 b2 b3 b4 b5 b6 b7
  have p0 := plM_b (q := q) (t := t) (a := a) (w := 0) (by omega) (by omega) (by omega) (by omega)
  have p1 := plM_b (q := q) (t := t) (a := a) (w := 0 + 1) (by omega) (by omega) (by omega) (by omega)
  have p2 := plM_b (q := q) (t := t2) (a := a2) (w := w2) (by omega) (by omega) (by omega) (by omega)
  rw [r2, r1]
  by_cases c1 : plM q t2 a2 w2 = plM q t a (0 + 1)
  · obtain ⟨-, i2, i3, i4⟩ := plM_inj (by omega) (by omega) (by omega : 0 ≤ w2 ∧ w2 ≤ 1) (by omega) (by omega) (by omega) c1
    rw [if_pos (by rw [c1]), i2, i3, i4]
  · rw [if_neg (by omega)]
    by_cases c0 : plM q t2 a2 w2 = plM q t a 0
    · obtain ⟨-, i2, i3, i4⟩ := plM_inj (by omega) (by omega) (by omega : 0 ≤ w2 ∧ w2 ≤ 1) (by omega) (by omega) (by omega) c0
      rw [if_pos (by rw [c0]), i2, i3, i4]
    · rw [if_neg (by omega)]
      refine d t2 a2 w2 b2 b3 b4 b5 b6 ?_
      have ne : ¬ (t2 = t ∧ a2 = a) := by
        rintro ⟨rfl, rfl⟩
        rcases b6 with rfl | rfl
        · exact c0 rfl
        · exact c1 rfl
      omega
theorem DoneF.row {H : Nat → Int} {f : Int → Int → Int → Int → Int} {q t : Int} {h : PH} (d : DoneF H f q t 0 h) (e : H 1 < t) : RowM H (f q) q h := fun t2 a2 w b0 b1 b2 b3 b4 => d t2 a2 w b0 b1 b2 b3 b4 (Or.inl (by omega))
theorem AboveF.next {H : Nat → Int} {f : Int → Int → Int → Int → Int} {q : Int} {h : PH} (ab : AboveF H f q h) (r : RowM H (f q) q h) : AboveF H f (q - 1) h := by
  intro q2 b0 b1
  by_cases c : q2 = q
  · rw [c]; exact r
  · exact ab q2 (by omega) b1
def CxV (H C : Nat → Int) (wet mute : Int) (h : PH) : Prop := Shp h ∧ HsM H C h ∧ FlM wet mute h ∧ (wet = 0 ∨ wet = 1) ∧ (mute = 0 ∨ mute = 1)
theorem CxV.fr {H C : Nat → Int} {wet mute : Int} {h h2 : PH} (x : CxV H C wet mute h) (f : FrV h h2) : CxV H C wet mute h2 := ⟨f.shp x.1, f.hs x.2.1, x.2.2.1.fr f, x.2.2.2⟩
theorem closedM {N : Nat} {H C : Nat → Int} {h : PH} {q t : Int} (s : Shp h) (hs : HsM H C h) : Mo_closedBy N 92 (iv q) (iv t) h = some (iv (off0 H q t), h) := by
  unfold Mo_closedBy off0
  simp (disch := decide) only [k92 s, p92_10 s, p92_11 s, p92_35 s, k94 s, k95 s, k116 s, ck_T, bn_s, inb_l, ix_l, eq_self]
  rw [hs.1 12 (by omega), hs.1 0 (by omega), hs.1 7 (by omega), il1000, iv_neg, iv_sub, iv_mul, iv_mul, iv_add, iv_mul]
theorem cell_laysValues {N fu : Nat} {H C : Nat → Int} {wet mute : Int} {q t a w : Int} {K17 : Nat → Int32 → PH → Option (Unit × PH)} {K24 : Nat → Int32 → Int32 → PH → Option (Unit × PH)} {K38 : Nat → Int32 → Int32 → Int32 → PH → Option (Unit × PH)} {Q : Unit → PH → Prop} {h : PH} (hN : 200 ≤ N) (ho : HOK H C) (cx : CxV H C wet mute h) (ab : AboveF H (Vq H C wet mute) q h) (hq : 0 ≤ q ∧ q ≤ H 0) (ht : 0 ≤ t ∧ t ≤ H 1) (ha : 0 ≤ a ∧ a ≤ H 2) (hw : w = 0 ∨ w = 1) (kk : ∀ h2, FrV h h2 → (∀ i, hI h2 121 i = if i = (plM q t a w).toNat then iv (Vq H C wet mute q t a w) else hI h 121 i) → Wp (Mo_laysValues_b52 N K17 K24 K38 fu 92 (iv q) (iv t) (iv a) (iv (w + 1)) h2) Q) : Wp (Mo_laysValues_b52 N K17 K24 K38 (fu + 1) 92 (iv q) (iv t) (iv a) (iv w) h) Q := by
  have h01 := ho.1
  have h11 := ho.2.1
  have h21 := ho.2.2.1
  obtain ⟨s, hs, fl, hwet, hm⟩ := cx
  have pb := plM_b (q := q) (t := t) (a := a) (w := w) (by omega) (by omega) (by omega) (by omega)
  have ob := off0_b ho (q := q) (t := t) (by omega) (by omega)
  have fin : ∀ (h1 : PH) (x : Int), FrV h h1 → (∀ i, hI h1 121 i = hI h 121 i) → x = Vq H C wet mute q t a w → Wp (Mo_laysValues_b113 N K17 K24 K38 (Mo_laysValues_b52 N K17 K24 K38 fu) (some 121) (iv (plM q t a w)) (iv x) 92 (iv q) (iv t) (iv a) (iv w) h1) Q := by
    rintro h1 x f1 t1 rfl
    have s1 := f1.shp s
    unfold Mo_laysValues_b113
    refine Wp_bn rfl (Wp_ck (by rw [k121 s1]) (Wp_ck (by rw [k121 s1]; exact inb_iv pb.1 pb.2 (by omega)) (Wp_lt ?_)))
    rw [il1, iv_add, ix_iv pb.1 (by omega)]
    refine kk _ f1.t ?_
    intro i
    rw [hI_wI, t1]
    simp only [true_and]
  rw [Mo_laysValues_b52]
  refine Wp_ifn (by rw [il2, iv_le (by omega) (by omega) (by omega) (by omega)]; omega) (Wp_ck (by rw [k92 s]) (Wp_bde atM (Wp_ck (by rw [k92 s]) (Wp_bn (p92_10 s) (Wp_ck (by rw [k94 s]) (Wp_ck (by rw [k94 s]; exact inb_l 0 36 (by omega) (by omega)) ?_))))))
  rw [ix_l 0 (by omega), hs.1 0 (by omega), p92_44 s]
  refine Wp_if (fun c => ?_) (fun c => ?_)
  · rw [iv_eq (by omega) (by omega) (by omega) (by omega)] at c
    refine Wp_bde (closedM s hs) ?_
    exact fin h _ FrV.rf (fun _ => rfl) (Vq_end c).symm
  · rw [iv_eq (by omega) (by omega) (by omega) (by omega)] at c
    have bd := Vq_bd ho wet mute (q := q + 1) (by omega)
    have lb := lit_b ho bd (wet := wet) (mute := mute) (q := q) (t := t) (a := a) (w := w) (by omega) ht ha hw
    refine Wp_bde (closedM s hs) (Wp_ck (by rw [k92 s]) ?_)
    refine Wp_bd2 (openM (by omega) ho s hs fl hwet hm (ab (q + 1) (by omega) (by omega)) bd (by omega) ht ha hw) ?_
    rintro v h1 ⟨rfl, f1, t1⟩
    rw [iv_mx (by omega) (by omega) (by omega) (by omega)]
    exact fin h1 _ f1 t1 (Vq_lt (by omega)).symm

theorem a_laysValues {N : Nat} {H C : Nat → Int} {wet mute : Int} {q t : Int} {K17 : Nat → Int32 → PH → Option (Unit × PH)} {K24 : Nat → Int32 → Int32 → PH → Option (Unit × PH)} {Q : Unit → PH → Prop} (hN : 200 ≤ N) (ho : HOK H C) (hq : 0 ≤ q ∧ q ≤ H 0) (ht : 0 ≤ t ∧ t ≤ H 1) {h0 : PH} (kk : ∀ h2, FrV h0 h2 → AboveF H (Vq H C wet mute) q h2 → DoneF H (Vq H C wet mute) q t (H 2 + 1) h2 → Wp (K24 92 (iv q) (iv (t + 1)) h2) Q) : ∀ (m : Nat) (a : Int) (h : PH), a + m = H 2 + 1 → 0 ≤ a → CxV H C wet mute h → FrV h0 h → AboveF H (Vq H C wet mute) q h → DoneF H (Vq H C wet mute) q t a h → ∀ fuel, m < fuel → Wp (Mo_laysValues_b38 N K17 K24 fuel 92 (iv q) (iv t) (iv a) h) Q := by
  intro m
  have h01 := ho.1
  have h11 := ho.2.1
  have h21 := ho.2.2.1
  induction m with
  | zero =>
    intro a h e ha cx fr ab d fuel hf
    obtain ⟨fu, rfl⟩ : ∃ fu, fuel = fu + 1 := ⟨fuel - 1, by omega⟩
    have s := cx.1
    rw [Mo_laysValues_b38]
    refine Wp_ck (by rw [k92 s]) (Wp_bn (p92_10 s) (Wp_ck (by rw [k94 s]) (Wp_ck (by rw [k94 s]; exact inb_l 2 36 (by omega) (by omega)) ?_)))
    rw [ix_l 2 (by omega), cx.2.1.1 2 (by omega), il1, iv_add]
    refine Wp_ifp (by rw [iv_lt (by omega) (by omega) (by omega) (by omega)]; omega) ?_
    exact kk h fr ab (by rw [show H 2 + 1 = a from by omega]; exact d)
  | succ m ih =>
    intro a h e ha cx fr ab d fuel hf
    obtain ⟨fu, rfl⟩ : ∃ fu, fuel = fu + 1 := ⟨fuel - 1, by omega⟩
    have s := cx.1
    rw [Mo_laysValues_b38]
    refine Wp_ck (by rw [k92 s]) (Wp_bn (p92_10 s) (Wp_ck (by rw [k94 s]) (Wp_ck (by rw [k94 s]; exact inb_l 2 36 (by omega) (by omega)) ?_)))
    rw [ix_l 2 (by omega), cx.2.1.1 2 (by omega), il0]
    refine Wp_ifn (by rw [iv_lt (by omega) (by omega) (by omega) (by omega)]; omega) ?_
    obtain ⟨gu, egu⟩ : ∃ g, N = g + 1 + 1 + 1 := ⟨N - 3, by omega⟩
    have go : Wp (Mo_laysValues_b52 N K17 K24 (Mo_laysValues_b38 N K17 K24 fu) (gu + 1 + 1 + 1) 92 (iv q) (iv t) (iv a) (iv 0) h) Q := by
      refine cell_laysValues hN ho cx ab hq ht ⟨ha, by omega⟩ (Or.inl rfl) ?_
      intro h1 f1 r1
      have ab1 : AboveF H (Vq H C wet mute) q h1 := ab.upd hq ht ⟨ha, by omega⟩ (by omega) r1 ho
      refine cell_laysValues hN ho (cx.fr f1) ab1 hq ht ⟨ha, by omega⟩ (Or.inr rfl) ?_
      intro h2 f2 r2
      rw [Mo_laysValues_b52]
      refine Wp_ifp (by decide) ?_
      rw [il1, iv_add]
      have f3 := f1.tr f2
      refine ih (a + 1) h2 (by omega) (by omega) (cx.fr f3) (fr.tr f3) (ab1.upd hq ht ⟨ha, by omega⟩ (by omega) r2 ho) ?_ fu (by omega)
      exact d.upd hq ht ⟨ha, by omega⟩ r1 r2 ho
    rw [← egu] at go
    exact go
theorem t_laysValues {N : Nat} {H C : Nat → Int} {wet mute : Int} {q : Int} {K17 : Nat → Int32 → PH → Option (Unit × PH)} {Q : Unit → PH → Prop} (hN : 200 ≤ N) (ho : HOK H C) (hq : 0 ≤ q ∧ q ≤ H 0) {h0 : PH} (kk : ∀ h2, FrV h0 h2 → AboveF H (Vq H C wet mute) (q - 1) h2 → Wp (K17 92 (iv (q - 1)) h2) Q) : ∀ (m : Nat) (t : Int) (h : PH), t + m = H 1 + 1 → 0 ≤ t → CxV H C wet mute h → FrV h0 h → AboveF H (Vq H C wet mute) q h → DoneF H (Vq H C wet mute) q t 0 h → ∀ fuel, m < fuel → Wp (Mo_laysValues_b24 N K17 fuel 92 (iv q) (iv t) h) Q := by
  intro m
  have h01 := ho.1
  have h11 := ho.2.1
  have h21 := ho.2.2.1
  induction m with
  | zero =>
    intro t h e ht cx fr ab d fuel hf
    obtain ⟨fu, rfl⟩ : ∃ fu, fuel = fu + 1 := ⟨fuel - 1, by omega⟩
    have s := cx.1
    rw [Mo_laysValues_b24]
    refine Wp_ck (by rw [k92 s]) (Wp_bn (p92_10 s) (Wp_ck (by rw [k94 s]) (Wp_ck (by rw [k94 s]; exact inb_l 1 36 (by omega) (by omega)) ?_)))
    rw [ix_l 1 (by omega), cx.2.1.1 1 (by omega), il1, iv_neg, iv_add, show q + -1 = q - 1 from by omega]
    refine Wp_ifp (by rw [iv_lt (by omega) (by omega) (by omega) (by omega)]; omega) ?_
    exact kk h fr (ab.next (d.row (by omega)))
  | succ m ih =>
    intro t h e ht cx fr ab d fuel hf
    obtain ⟨fu, rfl⟩ : ∃ fu, fuel = fu + 1 := ⟨fuel - 1, by omega⟩
    have s := cx.1
    rw [Mo_laysValues_b24]
    refine Wp_ck (by rw [k92 s]) (Wp_bn (p92_10 s) (Wp_ck (by rw [k94 s]) (Wp_ck (by rw [k94 s]; exact inb_l 1 36 (by omega) (by omega)) ?_)))
    rw [ix_l 1 (by omega), cx.2.1.1 1 (by omega), il0]
    refine Wp_ifn (by rw [iv_lt (by omega) (by omega) (by omega) (by omega)]; omega) ?_
    refine a_laysValues hN ho hq ⟨ht, by omega⟩ (h0 := h) ?_ (H 2 + 1).toNat 0 h (by omega) (by omega) cx FrV.rf ab d N (by omega)
    intro h2 g ab2 d2
    refine ih (t + 1) h2 (by omega) (by omega) (cx.fr g) (fr.tr g) ab2 ?_ fu (by omega)
    intro t3 a3 w3 b3 b4 b5 b6 b7 b8
    exact d2 t3 a3 w3 b3 b4 b5 b6 b7 (by omega)

theorem q_laysValues {N : Nat} {H C : Nat → Int} {wet mute : Int} (hN : 200 ≤ N) (ho : HOK H C) {h0 : PH} : ∀ (m : Nat) (q : Int) (h : PH), q + 1 = m → q ≤ H 0 → CxV H C wet mute h → FrV h0 h → AboveF H (Vq H C wet mute) q h → ∀ fuel, m < fuel → Wp (Mo_laysValues_b17 N fuel 92 (iv q) h) (fun _ h2 => FrV h0 h2 ∧ AboveF H (Vq H C wet mute) (-1) h2) := by
  intro m
  have h01 := ho.1
  have h11 := ho.2.1
  induction m with
  | zero =>
    intro q h e hq cx fr ab fuel hf
    obtain ⟨fu, rfl⟩ : ∃ fu, fuel = fu + 1 := ⟨fuel - 1, by omega⟩
    rw [Mo_laysValues_b17]
    refine Wp_ifp (by rw [il0, iv_lt (by omega) (by omega) (by omega) (by omega)]; omega) (Wp_ret ⟨fr, ?_⟩)
    rw [show (-1 : Int) = q from by omega]
    exact ab
  | succ m ih =>
    intro q h e hq cx fr ab fuel hf
    obtain ⟨fu, rfl⟩ : ∃ fu, fuel = fu + 1 := ⟨fuel - 1, by omega⟩
    rw [Mo_laysValues_b17]
    refine Wp_ifn (by rw [il0, iv_lt (by omega) (by omega) (by omega) (by omega)]; omega) ?_
    rw [il0]
    refine t_laysValues hN ho ⟨by omega, hq⟩ (h0 := h) ?_ (H 1 + 1).toNat 0 h (by omega) (by omega) cx FrV.rf ab (fun t3 a3 w3 b3 b4 b5 b6 b7 b8 => by omega) N (by omega)
    intro h2 g ab2
    exact ih (q - 1) h2 (by omega) (by omega) (cx.fr g) (fr.tr g) ab2 fu (by omega)
/-- flags set anew, then the table -/
def FrW (h h2 : PH) : Prop := FrS SV h h2 ∧ hJ h2 = hJ h ∧ (∀ b, b ≠ 92 → hZ h2 b = hZ h b) ∧ ∀ j, j ≠ 41 → j ≠ 42 → j ≠ 43 → j ≠ 47 → hI h2 92 j = hI h 92 j
theorem FrV.ww {h h2 : PH} (f : FrV h h2) : FrW h h2 := ⟨f.1.s, f.1.2.2.2.2.1, fun b _ => by rw [f.1.2.2.2.1], f.2⟩
theorem FrW.rf {h : PH} : FrW h h := FrV.rf.ww
theorem FrW.tr {h h1 h2 : PH} (a : FrW h h1) (b : FrW h1 h2) : FrW h h2 := ⟨a.1.tr b.1, b.2.1.trans a.2.1, fun c hc => (b.2.2.1 c hc).trans (a.2.2.1 c hc), fun j x y z u => (b.2.2.2 j x y z u).trans (a.2.2.2 j x y z u)⟩
theorem FrW.shp {h h2 : PH} (f : FrW h h2) (s : Shp h) : Shp h2 := f.1.shp s
theorem FrW.hs {H C : Nat → Int} {h h2 : PH} (f : FrW h h2) (x : HsM H C h) : HsM H C h2 := x.fr f.1 (by unfold SV; omega) (by unfold SV; omega)
theorem FrW.nt {n : Nat → Int} {h h2 : PH} (f : FrW h h2) (x : NtM n h) : NtM n h2 := x.fr f.1 (by unfold SV; omega)
theorem tb_w {w : Int} (h : w = 0 ∨ w = 1) : tb (iv w) = decide (w = 1) ∧ isB (iv w) = true := by
  rcases h with rfl | rfl <;> decide
theorem laysV {N : Nat} {H C : Nat → Int} {wet mute : Int} {h : PH} (hN : 200 ≤ N) (s : Shp h) (ho : HOK H C) (hs : HsM H C h) (hwet : wet = 0 ∨ wet = 1) (hm : mute = 0 ∨ mute = 1) : Wp (Mo_laysValues N 92 (iv wet) (iv mute) h) (fun _ h2 => FrW h h2 ∧ FlM wet mute h2 ∧ AboveF H (Vq H C wet mute) (-1) h2) := by
  have h01 := ho.1
  unfold Mo_laysValues
  rw [(tb_w hwet).1, (tb_w hm).1]
  refine Wp_ck (by rw [k92 s]) (Wp_ck (tb_w hwet).2 (Wp_lt (Wp_ck (tb_w hm).2 (Wp_lt ?_))))
  have f0 : FrW h (wZ (wZ h 92 45 (decide (wet = 1))) 92 46 (decide (mute = 1))) := ⟨(FrS.rf.aZ (Or.inl rfl)).aZ (Or.inl rfl), rfl, fun b hb => by
    show hZ (wZ (wZ h 92 45 (decide (wet = 1))) 92 46 (decide (mute = 1))) b = hZ h b
    funext j
    rw [hZ_wZ, hZ_wZ, if_neg (by omega), if_neg (by omega)], fun _ _ _ _ _ => rfl⟩
  have fl : FlM wet mute (wZ (wZ h 92 45 (decide (wet = 1))) 92 46 (decide (mute = 1))) := by
    constructor
    · simp [hZ_wZ]
    · simp [hZ_wZ]
  have s1 := f0.shp s
  have hs1 := f0.hs hs
  generalize (wZ (wZ h 92 45 (decide (wet = 1))) 92 46 (decide (mute = 1))) = h1 at f0 fl s1 hs1 ⊢
  simp (disch := decide) only [bn_s, p92_10 s1, k94 s1, ck_T, inb_l, ix_l, eq_self]
  rw [hs1.1 0 (by omega)]
  refine Wp_mono (q_laysValues hN ho (h0 := h1) (H 0 + 1).toNat (H 0) h1 (by omega) (Int.le_refl _) ⟨s1, hs1, fl, hwet, hm⟩ FrV.rf (fun q2 b0 b1 => by omega) N (by omega)) ?_
  rintro - h2 ⟨f, ab⟩
  exact ⟨f0.tr f.ww, fl.fr f, ab⟩
