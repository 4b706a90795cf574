/-! THE PURE PROOFS, 10: the reference's VALUE. -/
def plM (q t a w : Int) : Int := ((q * 121 + t) * 13 + a) * 2 + w
theorem plM_b {q t a w : Int} (hq : 0 ≤ q ∧ q ≤ 24) (ht : 0 ≤ t ∧ t ≤ 120) (ha : 0 ≤ a ∧ a ≤ 12) (hw : 0 ≤ w ∧ w ≤ 1) : 0 ≤ plM q t a w ∧ plM q t a w < 78650 := by unfold plM; omega
theorem plM_inj {q t a w q2 t2 a2 w2 : Int} (ht : 0 ≤ t ∧ t ≤ 120) (ha : 0 ≤ a ∧ a ≤ 12) (hw : 0 ≤ w ∧ w ≤ 1) (ht2 : 0 ≤ t2 ∧ t2 ≤ 120) (ha2 : 0 ≤ a2 ∧ a2 ≤ 12) (hw2 : 0 ≤ w2 ∧ w2 ≤ 1) (e : plM q t a w = plM q2 t2 a2 w2) : q = q2 ∧ t = t2 ∧ a = a2 ∧ w = w2 := by unfold plM at e; omega
def SV (b : Nat) : Prop := b = 92 ∨ b = 121 ∨ (103 ≤ b ∧ b ≤ 112) ∨ b = 122 ∨ b = 123
/-- what the reference's tables leave as it was -/
def FrV (h h2 : PH) : Prop := FrI SV h h2 ∧ ∀ j, j ≠ 41 → j ≠ 42 → j ≠ 43 → j ≠ 47 → hI h2 92 j = hI h 92 j
theorem FrV.rf {h : PH} : FrV h h := ⟨FrI.rf, fun _ _ _ _ _ => rfl⟩
theorem FrV.tr {h h1 h2 : PH} (a : FrV h h1) (b : FrV h1 h2) : FrV h h2 := ⟨a.1.tr b.1, fun j x y z u => (b.2 j x y z u).trans (a.2 j x y z u)⟩
theorem FrV.t {h0 h : PH} {i : Nat} {v : Int32} (f : FrV h0 h) : FrV h0 (wI h 121 i v) := f.tr ⟨FrI.rf.w (Or.inr (Or.inl rfl)), fun j _ _ _ _ => by rw [hI_wI, if_neg (by omega)]⟩
theorem FrV.b {h0 h : PH} {v : Int32} (f : FrV h0 h) : FrV h0 (wI h 92 47 v) := f.tr ⟨FrI.rf.w (Or.inl rfl), fun j _ _ _ u => by rw [hI_wI, if_neg (by omega)]⟩
theorem GvF.v {h h2 : PH} (g : GvF h h2) : FrV h h2 := ⟨⟨g.1.1, g.1.2.1, g.1.2.2.1, g.2.2.1, g.2.1, fun b hb => (g.1.2.2.2 b (fun e => hb (Or.inl e))).1⟩, fun j x y z _ => g.2.2.2 j x y z⟩
theorem FrV.shp {h h2 : PH} (f : FrV h h2) (s : Shp h) : Shp h2 := f.1.shp s
theorem FrV.hs {H C : Nat → Int} {h h2 : PH} (f : FrV h h2) (x : HsM H C h) : HsM H C h2 := x.fr f.1.s (by unfold SV; omega) (by unfold SV; omega)
theorem FrV.nt {n : Nat → Int} {h h2 : PH} (f : FrV h h2) (x : NtM n h) : NtM n h2 := x.fr f.1.s (by unfold SV; omega)
/-- flags: wet, mute -/
def FlM (wet mute : Int) (h : PH) : Prop := hZ h 92 45 = decide (wet = 1) ∧ hZ h 92 46 = decide (mute = 1)
theorem FlM.fr {wet mute : Int} {h h2 : PH} (x : FlM wet mute h) (f : FrV h h2) : FlM wet mute h2 := by unfold FlM; rw [f.1.2.2.2.1]; exact x
/-- a quarter's row in the table -/
def RowM (H : Nat → Int) (nx : Int → Int → Int → Int) (q : Int) (h : PH) : Prop := ∀ t a w : Int, 0 ≤ t → t ≤ H 1 → 0 ≤ a → a ≤ H 2 → (w = 0 ∨ w = 1) → hI h 121 (plM q t a w).toNat = iv (nx t a w)
theorem atM {N : Nat} {q t a w : Int} {h : PH} : Mo_at N (iv q) (iv t) (iv a) (iv w) h = some (iv (plM q t a w), h) := by
  unfold Mo_at plM
  simp only [il121, il13, il2, iv_mul, iv_add]
theorem greatM_step {N fu : Nat} {H C : Nat → Int} {wet mute : Int} {nx : Int → Int → Int → Int} {q here t a k b x : Int} {h : PH} {Q : Int32 → PH → Prop} (hN : 100 ≤ N) (ho : HOK H C) (s : Shp h) (hs : HsM H C h) (fl : FlM wet mute h) (hm : mute = 0 ∨ mute = 1) (row : RowM H nx (q + 1) h) (bd : Bd H nx (-26136000) 28512000) (hq : 0 ≤ q ∧ q < H 0) (ht : 0 ≤ t ∧ t ≤ H 1) (ha : 0 ≤ a ∧ a ≤ H 2) (hh : 0 ≤ here ∧ here ≤ 4) (hk : 0 ≤ k ∧ k ≤ 4) (hb : -1 ≤ b ∧ b ≤ 4) (hx : -30000000 ≤ x ∧ x ≤ 30000000) (e47 : hI h 92 47 = iv b) (kk : ∀ h2 b2 x2, FrV h h2 → (∀ i, hI h2 121 i = hI h 121 i) → (b2, x2) = (if b < 0 ∨ x < wv H mute nx q here t a k then (k, wv H mute nx q here t a k) else (b, x)) → hI h2 92 47 = iv b2 → Wp (Mo_greatest_b31 N fu 92 (iv q) (iv here) (iv t) (iv a) (iv x2) (iv (k + 1)) h2) Q) : Wp (Mo_greatest_b31 N (fu + 1) 92 (iv q) (iv here) (iv t) (iv a) (iv x) (iv k) h) Q := by
  have h01 := ho.1
  have h11 := ho.2.1
  have h21 := ho.2.2.1
  have wb := wv_b ho bd (mute := mute) (q := q) hk hh ht ha
  have g := g_b ho (q := q) hk hh ht.1 ha.1
  rw [Mo_greatest_b31]
  refine Wp_ifn (by rw [il5, iv_le (by omega) (by omega) (by omega) (by omega)]; omega) (Wp_ck (by rw [k92 s]) ?_)
  refine Wp_bd2 (givesM hN ho (by omega) hk (by omega) (by omega) (by omega) s hs) ?_
  rintro v h1 ⟨rfl, gf, g1, g2, g3⟩
  have f1 := gf.v
  have s1 := f1.shp s
  have hs1 := f1.hs hs
  have t1 : ∀ i, hI h1 121 i = hI h 121 i := fun i => gf.1.I (by omega) i
  have e1 : hI h1 92 47 = iv b := (gf.2.2.2 47 (by omega) (by omega) (by omega)).trans e47
  have fin : ∀ w : Int, (w = 0 ∨ w = 1) → w = (if mute = 0 then isW H k here else 0) → Wp (Mo_greatest_b93 N (Mo_greatest_b31 N fu) (iv 1000 * iv (gv H q here k t a)) (some 121) (iv (q + 1)) (iv (gt H q here k t a)) (iv (ga H q here k t a)) (iv w) 92 (iv q) (iv here) (iv t) (iv a) (iv x) (iv k) h1) Q := by
    intro w w01 hw
    have pb := plM_b (q := q + 1) (t := gt H q here k t a) (a := ga H q here k t a) (w := w) (by omega) (by omega) (by omega) (by omega)
    unfold Mo_greatest_b93 Mo_greatest_b117 Mo_greatest_b127
    refine Wp_bde atM (Wp_bn rfl (Wp_ck (by rw [k121 s1]) (Wp_ck (by rw [k121 s1]; exact inb_iv pb.1 pb.2 (by omega)) (Wp_ck (by rw [k92 s1]) ?_))))
    rw [ix_iv pb.1 (by omega), t1, row _ _ w (by omega) (by omega) (by omega) (by omega) w01, e1, iv_mul, iv_add]
    have ew : 1000 * gv H q here k t a + nx (gt H q here k t a) (ga H q here k t a) w = wv H mute nx q here t a k := by
      unfold wv; rw [hw]
    rw [ew]
    have kset := kk (wI h1 92 47 (iv k)) k (wv H mute nx q here t a k) (f1.b) (fun i => by rw [hI_wI, if_neg (by omega)]; exact t1 i)
    refine Wp_if (fun c => ?_) (fun c => ?_)
    · rw [il0, iv_lt (by omega) (by omega) (by omega) (by omega)] at c
      refine Wp_ck (by rw [k92 s1]) (Wp_lt ?_)
      rw [il1, iv_add]
      exact kset (by rw [if_pos (Or.inl c)]) (by rw [hI_wI, if_pos ⟨rfl, rfl⟩])
    · rw [il0, iv_lt (by omega) (by omega) (by omega) (by omega)] at c
      refine Wp_if (fun c2 => ?_) (fun c2 => ?_)
      · rw [iv_lt (by omega) (by omega) (by omega) (by omega)] at c2
        refine Wp_ck (by rw [k92 s1]) (Wp_lt ?_)
        rw [il1, iv_add]
        exact kset (by rw [if_pos (Or.inr c2)]) (by rw [hI_wI, if_pos ⟨rfl, rfl⟩])
      · rw [iv_lt (by omega) (by omega) (by omega) (by omega)] at c2
        rw [il1, iv_add]
        exact kk h1 b x f1 t1 (by rw [if_neg (by omega)]) e1
  refine Wp_ck (by rw [k92 s1]) ?_
  have fl1 := fl.fr f1
  rw [fl1.2, g1, g2, il1000, il1, iv_add, p92_44 s1]
  unfold Mo_greatest_b92
  rw [il0]
  refine Wp_if (fun c => ?_) (fun c => ?_)
  · rw [← il0] at c
    simp only [bI_0] at c
    have m0 : mute = 0 := by simp at c; omega
    refine Wp_bde (isWM_eq s1 ho hs1 (by omega) hk) ?_
    rw [← il0]
    simp only [bI_0]
    rw [il0]
    rcases isW_01 H k here with e | e
    · rw [e]
      exact Wp_ifp (by decide) (fin 0 (Or.inl rfl) (by rw [if_pos m0, e]))
    · rw [e]
      exact Wp_ifn (by decide) (fin 1 (Or.inr rfl) (by rw [if_pos m0, e]))
  · rw [← il0] at c
    simp only [bI_0] at c
    have m1 : mute = 1 := by simp at c; omega
    exact fin 0 (Or.inl rfl) (by rw [if_neg (by omega)])
theorem greatM {N : Nat} {H C : Nat → Int} {wet mute : Int} {nx : Int → Int → Int → Int} {q here t a : Int} {h : PH} (hN : 100 ≤ N) (ho : HOK H C) (s : Shp h) (hs : HsM H C h) (fl : FlM wet mute h) (hm : mute = 0 ∨ mute = 1) (row : RowM H nx (q + 1) h) (bd : Bd H nx (-26136000) 28512000) (hq : 0 ≤ q ∧ q < H 0) (ht : 0 ≤ t ∧ t ≤ H 1) (ha : 0 ≤ a ∧ a ≤ H 2) (hh : 0 ≤ here ∧ here ≤ 4) : Wp (Mo_greatest N 92 (iv q) (iv here) (iv t) (iv a) h) (fun v h2 => v = iv (gr H mute nx q here t a) ∧ FrV h h2 ∧ (∀ i, hI h2 121 i = hI h 121 i) ∧ (0 < here → hI h2 92 47 = iv (bgv H mute nx q here t a))) := by
  have h01 := ho.1
  have h11 := ho.2.1
  have h21 := ho.2.2.1
  have wb : ∀ k : Int, 0 ≤ k ∧ k ≤ 4 → -27000000 ≤ wv H mute nx q here t a k ∧ wv H mute nx q here t a k ≤ 30000000 := by
    intro k hk
    have := wv_b ho bd (mute := mute) (q := q) hk hh ht ha
    omega
  unfold Mo_greatest
  refine Wp_if (fun c => ?_) (fun c => ?_)
  · rw [il0, iv_eq (by omega) (by omega) (by omega) (by omega)] at c
    subst c
    have pb := plM_b (q := q + 1) (t := t) (a := a) (w := 0) (by omega) (by omega) (by omega) (by omega)
    rw [il1, iv_add, il0, p92_44 s]
    refine Wp_ck (by rw [k92 s]) (Wp_bde atM (Wp_bn rfl (Wp_ck (by rw [k121 s]) (Wp_ck (by rw [k121 s]; exact inb_iv pb.1 pb.2 (by omega)) (Wp_ret ⟨?_, FrV.rf, fun _ => rfl, fun z => by omega⟩)))))
    rw [ix_iv pb.1 (by omega), row t a 0 ht.1 ht.2 ha.1 ha.2 (Or.inl rfl), gr_none]
  · rw [il0, iv_eq (by omega) (by omega) (by omega) (by omega)] at c
    refine Wp_ck (by rw [k92 s]) (Wp_lt ?_)
    rw [il0, il1, iv_neg]
    have key : ∀ (m k : Nat) (h1 : PH), k + m = 4 → FrV h h1 → (∀ i, hI h1 121 i = hI h 121 i) → hI h1 92 47 = iv (bs (wv H mute nx q here t a) k).1 → ∀ fu, m < fu → Wp (Mo_greatest_b31 N fu 92 (iv q) (iv here) (iv t) (iv a) (iv (bs (wv H mute nx q here t a) k).2) (iv ((k : Int) + 1)) h1) (fun v h2 => v = iv (gr H mute nx q here t a) ∧ FrV h h2 ∧ (∀ i, hI h2 121 i = hI h 121 i) ∧ (0 < here → hI h2 92 47 = iv (bgv H mute nx q here t a))) := by
      intro m
      induction m with
      | zero =>
        intro k h1 e f1 t1 e1 fu hf
        obtain ⟨fu, rfl⟩ : ∃ g, fu = g + 1 := ⟨fu - 1, by omega⟩
        have ek : k = 4 := by omega
        subst ek
        rw [Mo_greatest_b31]
        refine Wp_ifp (by rw [il5, iv_le (by omega) (by omega) (by omega) (by omega)]; omega) (Wp_ret ⟨?_, f1, t1, fun _ => e1⟩)
        rw [bs_gr]
      | succ m ih =>
        intro k h1 e f1 t1 e1 fu hf
        obtain ⟨fu, rfl⟩ : ∃ g, fu = g + 1 := ⟨fu - 1, by omega⟩
        have b1 := bs_b (wv H mute nx q here t a) k
        have b2 : ∀ j : Nat, j ≤ 4 → -27000000 ≤ (bs (wv H mute nx q here t a) j).2 ∧ (bs (wv H mute nx q here t a) j).2 ≤ 30000000 := by
          intro j
          induction j with
          | zero => intro _; exact wb 0 (by omega)
          | succ j ij =>
            intro hj
            have i := ij (by omega)
            have w := wb ((j : Int) + 1) (by omega)
            rw [bs]
            split
            · exact w
            · exact i
        have b3 := b2 k (by omega)
        refine greatM_step hN ho (f1.shp s) (f1.hs hs) (fl.fr f1) hm (fun t a w x1 x2 x3 x4 x5 => (t1 _).trans (row t a w x1 x2 x3 x4 x5)) bd hq ht ha hh (by omega) (by omega) (by omega) e1 ?_
        intro h2 bb xx f2 t2 e2 e3
        have e4 : (bb, xx) = bs (wv H mute nx q here t a) (k + 1) := by
          rw [e2, bs]
          by_cases c : (bs (wv H mute nx q here t a) k).2 < wv H mute nx q here t a ((k : Int) + 1)
          · rw [if_pos (Or.inr c), if_pos c]
          · rw [if_neg (by omega), if_neg c]
        have r := ih (k + 1) h2 (by omega) (f1.tr f2) (fun i => (t2 i).trans (t1 i)) (by rw [← e4]; exact e3) fu (by omega)
        rw [← e4] at r
        exact r
    obtain ⟨fu, efu⟩ : ∃ g, N = g + 1 := ⟨N - 1, by omega⟩
    have f1 : FrV h (wI h 92 47 (iv (-1))) := FrV.rf.b
    have go : Wp (Mo_greatest_b31 N (fu + 1) 92 (iv q) (iv here) (iv t) (iv a) (iv 0) (iv 0) (wI h 92 47 (iv (-1)))) (fun v h2 => v = iv (gr H mute nx q here t a) ∧ FrV h h2 ∧ (∀ i, hI h2 121 i = hI h 121 i) ∧ (0 < here → hI h2 92 47 = iv (bgv H mute nx q here t a))) := by
      refine greatM_step hN ho (f1.shp s) (f1.hs hs) (fl.fr f1) hm (fun t a w x1 x2 x3 x4 x5 => by rw [hI_wI, if_neg (by omega)]; exact row t a w x1 x2 x3 x4 x5) bd hq ht ha hh (by omega) (by omega : -1 ≤ (-1 : Int) ∧ (-1 : Int) ≤ 4) (by omega) (by rw [hI_wI, if_pos ⟨rfl, rfl⟩]) ?_
      intro h2 bb xx f2 t2 e2 e3
      rw [if_pos (Or.inl (by omega))] at e2
      obtain ⟨rfl, rfl⟩ := Prod.mk.inj e2
      exact key 4 0 h2 (by omega) (f1.tr f2) (fun i => (t2 i).trans (by rw [hI_wI, if_neg (by omega)])) e3 fu (by omega)
    rw [← efu] at go
    exact go
theorem bI_wm {w : Int} (h : w = 0 ∨ w = 1) : bI (decide (w = 1)) = iv w := bI_w h
theorem openM {N : Nat} {H C : Nat → Int} {wet mute : Int} {nx : Int → Int → Int → Int} {q t a w : Int} {h : PH} (hN : 100 ≤ N) (ho : HOK H C) (s : Shp h) (hs : HsM H C h) (fl : FlM wet mute h) (hwet : wet = 0 ∨ wet = 1) (hm : mute = 0 ∨ mute = 1) (row : RowM H nx (q + 1) h) (bd : Bd H nx (-26136000) 28512000) (hq : 0 ≤ q ∧ q < H 0) (ht : 0 ≤ t ∧ t ≤ H 1) (ha : 0 ≤ a ∧ a ≤ H 2) (hw : w = 0 ∨ w = 1) : Wp (Mo_openBy N 92 (iv q) (iv t) (iv a) (iv w) h) (fun v h2 => v = iv (lit H C wet mute nx q t a w) ∧ FrV h h2 ∧ (∀ i, hI h2 121 i = hI h 121 i)) := by
  have h01 := ho.1
  have lb := lit_b ho bd (wet := wet) (mute := mute) (q := q) (t := t) (a := a) (w := w) (by omega) ht ha hw
  have step : ∀ (fu : Nat) (k sum : Int) (h1 : PH) (Q : Int32 → PH → Prop), 0 ≤ k → k ≤ 3 → FrV h h1 → (∀ i, hI h1 121 i = hI h 121 i) → (∀ h2, FrV h h2 → (∀ i, hI h2 121 i = hI h 121 i) → Wp (Mo_openBy_b6 N fu 92 (iv q) (iv t) (iv a) (iv w) (jv (sum + cw C wet q k * gr H mute nx q (k + w) t a)) (iv (k + 1)) h2) Q) → Wp (Mo_openBy_b6 N (fu + 1) 92 (iv q) (iv t) (iv a) (iv w) (jv sum) (iv k) h1) Q := by
    intro fu k sum h1 Q k0 k3 f1 t1 kk
    have s1 := f1.shp s
    have cb := cw_b ho (wet := wet) (q := q) (k := k) (by omega) (by omega)
    have gb := gr_b ho bd (mute := mute) (q := q) (here := k + w) (t := t) (a := a) (by omega) ht ha
    rw [Mo_openBy_b6]
    refine Wp_ifn (by rw [il4, iv_le (by omega) (by omega) (by omega) (by omega)]; omega) (Wp_ck (by rw [k92 s1]) ?_)
    rw [(fl.fr f1).1, bI_w hwet]
    refine Wp_bde (chM_eq s1 (f1.hs hs) hwet (by omega) (by omega)) ?_
    unfold Mo_openBy_b52
    refine Wp_if (fun c => ?_) (fun c => ?_)
    · rw [il0, iv_le (by omega) (by omega) (by omega) (by omega)] at c
      rw [il1, iv_add]
      have r := kk h1 f1 t1
      rw [show cw C wet q k = 0 from by omega, Int.zero_mul, Int.add_zero] at r
      exact r
    · rw [il0, iv_le (by omega) (by omega) (by omega) (by omega)] at c
      refine Wp_ck (by rw [k92 s1]) ?_
      rw [iv_add]
      refine Wp_bd2 (greatM hN ho s1 (f1.hs hs) (fl.fr f1) hm (fun t a w x1 x2 x3 x4 x5 => (t1 _).trans (row t a w x1 x2 x3 x4 x5)) bd hq ht ha (by omega)) ?_
      rintro v h2 ⟨rfl, f2, t2, -⟩
      rw [il1, iv_add, iv_wide (by omega) (by omega), iv_wide (by omega) (by omega), jv_mul, jv_add]
      exact kk h2 (f1.tr f2) (fun i => (t2 i).trans (t1 i))
  obtain ⟨fu, efu⟩ : ∃ g, N = g + 1 + 1 + 1 + 1 + 1 := ⟨N - 5, by omega⟩
  have go : Wp (Mo_openBy_b6 N (fu + 1 + 1 + 1 + 1 + 1) 92 (iv q) (iv t) (iv a) (iv w) (jv 0) (iv 0) h) (fun v h2 => v = iv (lit H C wet mute nx q t a w) ∧ FrV h h2 ∧ (∀ i, hI h2 121 i = hI h 121 i)) := by
    refine step _ 0 0 h _ (by omega) (by omega) FrV.rf (fun _ => rfl) (fun h2 f2 t2 => ?_)
    refine step _ (0 + 1) _ h2 _ (by omega) (by omega) f2 t2 (fun h3 f3 t3 => ?_)
    refine step _ (0 + 1 + 1) _ h3 _ (by omega) (by omega) f3 t3 (fun h4 f4 t4 => ?_)
    refine step _ (0 + 1 + 1 + 1) _ h4 _ (by omega) (by omega) f4 t4 (fun h5 f5 t5 => ?_)
    rw [Mo_openBy_b6]
    refine Wp_ifp (by decide) (Wp_ck (by decide) (Wp_ret ⟨?_, f5, t5⟩))
    have e : (0 : Int) + cw C wet q 0 * gr H mute nx q (0 + w) t a + cw C wet q (0 + 1) * gr H mute nx q (0 + 1 + w) t a + cw C wet q (0 + 1 + 1) * gr H mute nx q (0 + 1 + 1 + w) t a + cw C wet q (0 + 1 + 1 + 1) * gr H mute nx q (0 + 1 + 1 + 1 + w) t a = cw C wet q 0 * gr H mute nx q (0 + w) t a + cw C wet q 1 * gr H mute nx q (1 + w) t a + cw C wet q 2 * gr H mute nx q (2 + w) t a + cw C wet q 3 * gr H mute nx q (3 + w) t a := by
      rw [show (0 : Int) + 1 = 1 from rfl, show (1 : Int) + 1 = 2 from rfl, show (2 : Int) + 1 = 3 from rfl]
      omega
    rw [e, jl10, jv_div (by omega) (by omega) (by omega) (by omega), jv_narrow]
    rfl
  unfold Mo_openBy
  rw [il0, jl0]
  rw [← efu] at go
  exact go
