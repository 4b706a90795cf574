/-! THE PURE PROOFS, 14: the reference's means (the loops printed by a program of mine). -/
/-- the reference's habits give what E says -/
def HabM (N : Nat) (H : Nat → Int) (E : Int → Int → Int → Int → Int → Int) (h : PH) : Prop := ∀ h1, Shp h1 → hI h1 94 0 = hI h 94 0 → hI h1 98 = hI h 98 → hI h1 99 = hI h 99 → hI h1 100 = hI h 100 → ∀ hb q t a here : Int, 0 ≤ hb → hb < H 15 → 0 ≤ q → q < 24 → 0 ≤ t → t ≤ 120 → 0 ≤ a → a ≤ 12 → 0 ≤ here → here ≤ 4 → Wp (Mo_habitGive N 92 (iv hb) (iv q) (iv t) (iv a) (iv here) h1) (fun v h2 => v = iv (E hb q t a here) ∧ FrV h1 h2 ∧ ∀ i, hI h2 121 i = hI h1 121 i)
theorem HabM.fr {N : Nat} {H : Nat → Int} {E : Int → Int → Int → Int → Int → Int} {h h2 : PH} (x : HabM N H E h) (f : FrV h h2) : HabM N H E h2 := fun h1 s e0 e1 e2 e3 => x h1 s (e0.trans (f.1.I (by unfold SV; omega) 0)) (e1.trans (f.1.2.2.2.2.2 98 (by unfold SV; omega))) (e2.trans (f.1.2.2.2.2.2 99 (by unfold SV; omega))) (e3.trans (f.1.2.2.2.2.2 100 (by unfold SV; omega)))
theorem mtE_none {H : Nat → Int} {E : Int → Int → Int → Int → Int → Int} {hb lf : Int} {nx : Int → Int → Int → Int} {q t a : Int} : mtE H E hb lf nx q t a 0 = nx t a 0 := by
  unfold mtE howE gv gt ga isW
  rw [if_pos rfl, if_neg (show ¬ (0 < H 11 ∧ (0 : Int) < 0 ∧ H 11 ≤ 0 ∧ (0 : Int) ≤ 3) by omega)]
  simp [gN]
def CxM (N : Nat) (H C : Nat → Int) (E : Int → Int → Int → Int → Int → Int) (hb lf u : Int) (h : PH) : Prop := Shp h ∧ HsM H C h ∧ HabM N H E h ∧ (0 ≤ hb ∧ hb < H 15) ∧ (lf = 0 ∨ lf = 1) ∧ (-1 ≤ u ∧ u ≤ 24) ∧ EOK E
theorem CxM.fr {N : Nat} {H C : Nat → Int} {E : Int → Int → Int → Int → Int → Int} {hb lf u : Int} {h h2 : PH} (x : CxM N H C E hb lf u h) (f : FrV h h2) : CxM N H C E hb lf u h2 := ⟨f.shp x.1, f.hs x.2.1, x.2.2.1.fr f, x.2.2.2⟩
theorem meanM {N : Nat} {H C : Nat → Int} {E : Int → Int → Int → Int → Int → Int} {hb lf u : Int} {nx : Int → Int → Int → Int} {q t a w : Int} {h : PH} (hN : 100 ≤ N) (ho : HOK H C) (cx : CxM N H C E hb lf u h) (row : RowM H nx (q + 1) h) (bd : Bd H nx (-36000000) 30000000) (hq : 0 ≤ q ∧ q < H 0) (ht : 0 ≤ t ∧ t ≤ H 1) (ha : 0 ≤ a ∧ a ≤ H 2) (hw : w = 0 ∨ w = 1) : Wp (Mo_meanBy N 92 (iv hb) (iv q) (iv t) (iv a) (iv w) (iv lf) h) (fun v h2 => v = iv (mnE H C E hb lf nx q t a w) ∧ FrV h h2 ∧ (∀ i, hI h2 121 i = hI h 121 i)) := by
  have h01 := ho.1
  have h11 := ho.2.1
  have h21 := ho.2.2.1
  have hhb := cx.2.2.2.1
  have hlf := cx.2.2.2.2.1
  have eo := cx.2.2.2.2.2.2
  have mb := mnE_b ho eo bd (hb := hb) (lf := lf) (q := q) (t := t) (a := a) (w := w) (by omega) ht ha hw
  have step : ∀ (fu : Nat) (k sum : Int) (h1 : PH) (Q : Int32 → PH → Prop), 0 ≤ k → k ≤ 3 → FrV h h1 → (∀ i, hI h1 121 i = hI h 121 i) → (∀ h2, FrV h h2 → (∀ i, hI h2 121 i = hI h 121 i) → Wp (Mo_meanBy_b6 N fu 92 (iv hb) (iv q) (iv t) (iv a) (iv w) (iv lf) (jv (sum + cw C 0 q k * mtE H E hb lf nx q t a (k + w))) (iv (k + 1)) h2) Q) → Wp (Mo_meanBy_b6 N (fu + 1) 92 (iv hb) (iv q) (iv t) (iv a) (iv w) (iv lf) (jv sum) (iv k) h1) Q := by
    intro fu k sum h1 Q k0 k3 f1 t1 kk
    have cx1 := cx.fr f1
    have s1 := cx1.1
    have cb := cw_b ho (wet := 0) (q := q) (k := k) (by omega) (by omega)
    have mb1 := mtE_b ho eo bd (hb := hb) (lf := lf) (q := q) (here := k + w) (t := t) (a := a) (by omega) ht ha
    rw [Mo_meanBy_b6]
    refine Wp_ifn (by rw [il4, iv_le (by omega) (by omega) (by omega) (by omega)]; omega) (Wp_ck (by rw [k92 s1]) ?_)
    simp only [il0]
    refine Wp_bde (chM_eq s1 cx1.2.1 (Or.inl rfl) (by omega) (by omega)) ?_
    rw [iv_add]
    unfold Mo_meanBy_b158
    refine Wp_if (fun c => ?_) (fun c => ?_)
    · rw [iv_eq (by omega) (by omega) (by omega) (by omega)] at c
      rw [il1, iv_add]
      have r := kk h1 f1 t1
      rw [c, Int.zero_mul, Int.add_zero] at r
      exact r
    · refine Wp_if (fun c2 => ?_) (fun c2 => ?_)
      · rw [iv_eq (by omega) (by omega) (by omega) (by omega)] at c2
        have pb := plM_b (q := q + 1) (t := t) (a := a) (w := 0) (by omega) (by omega) (by omega) (by omega)
        have nb := bd t a 0 ht.1 ht.2 ha.1 ha.2 (Or.inl rfl)
        refine Wp_ck (by rw [k92 s1]) ?_
        rw [il1, iv_add, iv_add]
        refine Wp_bde atM (Wp_bn (p92_44 s1) (Wp_ck (by rw [k121 s1]) (Wp_ck (by rw [k121 s1]; exact inb_iv pb.1 pb.2 (by omega)) ?_)))
        rw [ix_iv pb.1 (by omega), t1, row t a 0 ht.1 ht.2 ha.1 ha.2 (Or.inl rfl), iv_wide (by omega) (by omega), iv_wide (by omega) (by omega), jv_mul, jv_add]
        have r := kk h1 f1 t1
        rw [c2, mtE_none] at r
        exact r
      · rw [iv_eq (by omega) (by omega) (by omega) (by omega)] at c2
        refine Wp_ck (by rw [k92 s1]) ?_
        refine Wp_bd2 (cx1.2.2.1 h1 s1 rfl rfl rfl rfl hb q t a (k + w) hhb.1 hhb.2 hq.1 (by omega) ht.1 (by omega) ha.1 (by omega) (by omega) (by omega)) ?_
        rintro v h2 ⟨rfl, f2, t2⟩
        have cx2 := cx1.fr f2
        have s2 := cx2.1
        have ew : E hb q t a (k + w) = howE E hb q t a (k + w) := by unfold howE; rw [if_neg c2]
        rw [ew]
        have hw4 := howE_b eo hb q t a (k + w)
        have g := g_b ho (q := q) (here := k + w) hw4 (by omega) ht.1 ha.1
        refine Wp_ck (by rw [k92 s2]) (Wp_bd2 (givesM hN ho (by omega) hw4 (by omega) (by omega) (by omega) s2 cx2.2.1) ?_)
        rintro v h3 ⟨rfl, gf, g1, g2, g3⟩
        have f3 := (f1.tr f2).tr gf.v
        have t3 : ∀ i, hI h3 121 i = hI h 121 i := fun i => (gf.1.I (by omega) i).trans ((t2 i).trans (t1 i))
        have cx3 := cx2.fr gf.v
        have s3 := cx3.1
        have last : ∀ z : Int, z = (if lf = 0 then 1000 * gv H q (k + w) (howE E hb q t a (k + w)) t a else 0) → Wp (Mo_meanBy_b117 N (Mo_meanBy_b6 N fu) (jv sum) (jv (cw C 0 q k)) (iv z) 92 (iv hb) (iv q) (iv t) (iv a) (iv w) (iv lf) (iv k) (iv (k + w)) (iv (howE E hb q t a (k + w))) h3) Q := by
          intro z ez
          have fin : ∀ wn : Int, (wn = 0 ∨ wn = 1) → wn = isW H (howE E hb q t a (k + w)) (k + w) → Wp (Mo_meanBy_b148 N (Mo_meanBy_b6 N fu) (jv sum) (jv (cw C 0 q k)) (iv z) (some 121) (iv (q + 1)) (iv (gt H q (k + w) (howE E hb q t a (k + w)) t a)) (iv (ga H q (k + w) (howE E hb q t a (k + w)) t a)) (iv wn) 92 (iv hb) (iv q) (iv t) (iv a) (iv w) (iv lf) (iv k) h3) Q := by
            intro wn w01 hwn
            have pb := plM_b (q := q + 1) (t := gt H q (k + w) (howE E hb q t a (k + w)) t a) (a := ga H q (k + w) (howE E hb q t a (k + w)) t a) (w := wn) (by omega) (by omega) (by omega) (by omega)
            unfold Mo_meanBy_b148 Mo_meanBy_b158
            refine Wp_bde atM (Wp_bn rfl (Wp_ck (by rw [k121 s3]) (Wp_ck (by rw [k121 s3]; exact inb_iv pb.1 pb.2 (by omega)) ?_)))
            rw [ix_iv pb.1 (by omega), t3, row _ _ wn (by omega) (by omega) (by omega) (by omega) w01, iv_add]
            have em : z + nx (gt H q (k + w) (howE E hb q t a (k + w)) t a) (ga H q (k + w) (howE E hb q t a (k + w)) t a) wn = mtE H E hb lf nx q t a (k + w) := by
              unfold mtE
              rw [ez, hwn]
            rw [em, iv_wide (by omega) (by omega), jv_mul, jv_add, il1, iv_add]
            exact kk h3 f3 t3
          unfold Mo_meanBy_b117
          refine Wp_ck (by rw [k92 s3]) (Wp_bde (isWM_eq s3 ho cx3.2.1 (by omega) hw4) ?_)
          simp only [bI_0]
          rw [g1, g2, p92_44 s3, il0, il1, iv_add]
          rcases isW_01 H (howE E hb q t a (k + w)) (k + w) with e | e
          · rw [e]
            exact Wp_ifp (by decide) (fin 0 (Or.inl rfl) e.symm)
          · rw [e]
            exact Wp_ifn (by decide) (fin 1 (Or.inr rfl) e.symm)
        rw [iv_wide (by omega) (by omega)]
        refine Wp_if (fun cl => ?_) (fun cl => ?_)
        · rw [iv_eq (by omega) (by omega) (by omega) (by omega)] at cl
          rw [il1000, iv_mul]
          exact last _ (by rw [if_pos cl])
        · rw [iv_eq (by omega) (by omega) (by omega) (by omega)] at cl
          exact last _ (by rw [if_neg cl])
  obtain ⟨fu, efu⟩ : ∃ g, N = g + 1 + 1 + 1 + 1 + 1 := ⟨N - 5, by omega⟩
  have go : Wp (Mo_meanBy_b6 N (fu + 1 + 1 + 1 + 1 + 1) 92 (iv hb) (iv q) (iv t) (iv a) (iv w) (iv lf) (jv 0) (iv 0) h) (fun v h2 => v = iv (mnE H C E hb lf nx q t a w) ∧ FrV h h2 ∧ (∀ i, hI h2 121 i = hI h 121 i)) := by
    refine step _ 0 0 h _ (by omega) (by omega) FrV.rf (fun _ => rfl) (fun h2 f2 t2 => ?_)
    refine step _ (0 + 1) _ h2 _ (by omega) (by omega) f2 t2 (fun h3 f3 t3 => ?_)
    refine step _ (0 + 1 + 1) _ h3 _ (by omega) (by omega) f3 t3 (fun h4 f4 t4 => ?_)
    refine step _ (0 + 1 + 1 + 1) _ h4 _ (by omega) (by omega) f4 t4 (fun h5 f5 t5 => ?_)
    rw [Mo_meanBy_b6]
    refine Wp_ifp (by decide) (Wp_ck (by decide) (Wp_ret ⟨?_, f5, t5⟩))
    have e : (0 : Int) + cw C 0 q 0 * mtE H E hb lf nx q t a (0 + w) + cw C 0 q (0 + 1) * mtE H E hb lf nx q t a (0 + 1 + w) + cw C 0 q (0 + 1 + 1) * mtE H E hb lf nx q t a (0 + 1 + 1 + w) + cw C 0 q (0 + 1 + 1 + 1) * mtE H E hb lf nx q t a (0 + 1 + 1 + 1 + w) = cw C 0 q 0 * mtE H E hb lf nx q t a (0 + w) + cw C 0 q 1 * mtE H E hb lf nx q t a (1 + w) + cw C 0 q 2 * mtE H E hb lf nx q t a (2 + w) + cw C 0 q 3 * mtE H E hb lf nx q t a (3 + w) := by
      rw [show (0 : Int) + 1 = 1 from rfl, show (1 : Int) + 1 = 2 from rfl, show (2 : Int) + 1 = 3 from rfl]
      omega
    rw [e, jl10, jv_div (by omega) (by omega) (by omega) (by omega), jv_narrow]
    rfl
  unfold Mo_meanBy
  rw [il0, jl0]
  rw [← efu] at go
  exact go
theorem cell_laysMeans {N fu : Nat} {H C : Nat → Int} {E : Int → Int → Int → Int → Int → Int} {hb lf u : Int} {q t a w : Int} {K8 : Nat → Int32 → Int32 → Int32 → Int32 → PH → Option (Unit × PH)} {K22 : Nat → Int32 → Int32 → Int32 → Int32 → Int32 → PH → Option (Unit × PH)} {K36 : Nat → Int32 → Int32 → Int32 → Int32 → Int32 → Int32 → PH → Option (Unit × PH)} {Q : Unit → PH → Prop} {h : PH} (hN : 200 ≤ N) (ho : HOK H C) (cx : CxM N H C E hb lf u h) (ab : AboveF H (Fq H C E hb lf u) q h) (hq : 0 ≤ q ∧ q ≤ H 0) (ht : 0 ≤ t ∧ t ≤ H 1) (ha : 0 ≤ a ∧ a ≤ H 2) (hw : w = 0 ∨ w = 1) (kk : ∀ h2, FrV h h2 → (∀ i, hI h2 121 i = if i = (plM q t a w).toNat then iv (Fq H C E hb lf u q t a w) else hI h 121 i) → Wp (Mo_laysMeans_b50 N K8 K22 K36 fu 92 (iv hb) (iv u) (iv lf) (iv q) (iv t) (iv a) (iv (w + 1)) h2) Q) : Wp (Mo_laysMeans_b50 N K8 K22 K36 (fu + 1) 92 (iv hb) (iv u) (iv lf) (iv q) (iv t) (iv a) (iv w) h) Q := by
  have h01 := ho.1
  have h11 := ho.2.1
  have h21 := ho.2.2.1
  have cx0 := cx
  obtain ⟨s, hs, hm, hhb, hlf, hu, eo⟩ := cx
  have pb := plM_b (q := q) (t := t) (a := a) (w := w) (by omega) (by omega) (by omega) (by omega)
  have fin : ∀ (h1 : PH) (x : Int), FrV h h1 → (∀ i, hI h1 121 i = hI h 121 i) → x = Fq H C E hb lf u q t a w → Wp (Mo_laysMeans_b126 N K8 K22 K36 (Mo_laysMeans_b50 N K8 K22 K36 fu) (some 121) (iv (plM q t a w)) (iv x) 92 (iv hb) (iv u) (iv lf) (iv q) (iv t) (iv a) (iv w) h1) Q := by
    rintro h1 x f1 t1 rfl
    have s1 := f1.shp s
    unfold Mo_laysMeans_b126
    refine Wp_bn rfl (Wp_ck (by rw [k121 s1]) (Wp_ck (by rw [k121 s1]; exact inb_iv pb.1 pb.2 (by omega)) (Wp_lt ?_)))
    rw [il1, iv_add, ix_iv pb.1 (by omega)]
    refine kk _ f1.t ?_
    intro i
    rw [hI_wI, t1]
    simp only [true_and]
  have ends : (q = H 0 ∨ q = u) → Wp (Mo_laysMeans_b88 N K8 K22 K36 (Mo_laysMeans_b50 N K8 K22 K36 fu) (some 121) (iv (plM q t a w)) 92 (iv hb) (iv u) (iv lf) (iv q) (iv t) (iv a) (iv w) h) Q := by
    intro he
    unfold Mo_laysMeans_b88
    refine Wp_if (fun c => ?_) (fun c => ?_)
    · rw [il0, iv_eq (by omega) (by omega) (by omega) (by omega)] at c
      refine Wp_ck (by rw [k92 s]) (Wp_bde (closedM s hs) ?_)
      exact fin h _ FrV.rf (fun _ => rfl) (by rw [Fq_end he hq.2]; unfold bsE; rw [if_pos c])
    · rw [il0, iv_eq (by omega) (by omega) (by omega) (by omega)] at c
      rw [il1000, iv_mul]
      exact fin h _ FrV.rf (fun _ => rfl) (by rw [Fq_end he hq.2]; unfold bsE; rw [if_neg c])
  rw [Mo_laysMeans_b50]
  refine Wp_ifn (by rw [il2, iv_le (by omega) (by omega) (by omega) (by omega)]; omega) (Wp_ck (by rw [k92 s]) (Wp_bde atM (Wp_ck (by rw [k92 s]) (Wp_bn (p92_10 s) (Wp_ck (by rw [k94 s]) (Wp_ck (by rw [k94 s]; exact inb_l 0 36 (by omega) (by omega)) ?_))))))
  rw [ix_l 0 (by omega), hs.1 0 (by omega), p92_44 s]
  refine Wp_if (fun c => ?_) (fun c => ?_)
  · rw [iv_eq (by omega) (by omega) (by omega) (by omega)] at c
    exact ends (Or.inl c)
  · rw [iv_eq (by omega) (by omega) (by omega) (by omega)] at c
    refine Wp_if (fun c2 => ?_) (fun c2 => ?_)
    · rw [iv_eq (by omega) (by omega) (by omega) (by omega)] at c2
      exact ends (Or.inr c2)
    · rw [iv_eq (by omega) (by omega) (by omega) (by omega)] at c2
      have bd := Fq_bd ho eo hb lf u (q := q + 1) (by omega)
      refine Wp_bd2 (meanM (by omega) ho cx0 (ab (q + 1) (by omega) (by omega)) bd (by omega) ht ha hw) ?_
      rintro v h1 ⟨rfl, f1, t1⟩
      exact fin h1 _ f1 t1 (Fq_lt (by omega) c2).symm

theorem a_laysMeans {N : Nat} {H C : Nat → Int} {E : Int → Int → Int → Int → Int → Int} {hb lf u : Int} {q t : Int} {K8 : Nat → Int32 → Int32 → Int32 → Int32 → PH → Option (Unit × PH)} {K22 : Nat → Int32 → Int32 → Int32 → Int32 → Int32 → PH → Option (Unit × PH)} {Q : Unit → PH → Prop} (hN : 200 ≤ N) (ho : HOK H C) (hq : 0 ≤ q ∧ q ≤ H 0) (ht : 0 ≤ t ∧ t ≤ H 1) {h0 : PH} (kk : ∀ h2, FrV h0 h2 → AboveF H (Fq H C E hb lf u) q h2 → DoneF H (Fq H C E hb lf u) q t (H 2 + 1) h2 → Wp (K22 92 (iv hb) (iv u) (iv lf) (iv q) (iv (t + 1)) h2) Q) : ∀ (m : Nat) (a : Int) (h : PH), a + m = H 2 + 1 → 0 ≤ a → CxM N H C E hb lf u h → FrV h0 h → AboveF H (Fq H C E hb lf u) q h → DoneF H (Fq H C E hb lf u) q t a h → ∀ fuel, m < fuel → Wp (Mo_laysMeans_b36 N K8 K22 fuel 92 (iv hb) (iv u) (iv lf) (iv q) (iv t) (iv a) h) Q := by
  intro m
  have h01 := ho.1
  have h11 := ho.2.1
  have h21 := ho.2.2.1
  induction m with
  | zero =>
    intro a h e ha cx fr ab d fuel hf
    obtain ⟨fu, rfl⟩ : ∃ fu, fuel = fu + 1 := ⟨fuel - 1, by omega⟩
    have s := cx.1
    rw [Mo_laysMeans_b36]
    refine Wp_ck (by rw [k92 s]) (Wp_bn (p92_10 s) (Wp_ck (by rw [k94 s]) (Wp_ck (by rw [k94 s]; exact inb_l 2 36 (by omega) (by omega)) ?_)))
    rw [ix_l 2 (by omega), cx.2.1.1 2 (by omega), il1, iv_add]
    refine Wp_ifp (by rw [iv_lt (by omega) (by omega) (by omega) (by omega)]; omega) ?_
    exact kk h fr ab (by rw [show H 2 + 1 = a from by omega]; exact d)
  | succ m ih =>
    intro a h e ha cx fr ab d fuel hf
    obtain ⟨fu, rfl⟩ : ∃ fu, fuel = fu + 1 := ⟨fuel - 1, by omega⟩
    have s := cx.1
    rw [Mo_laysMeans_b36]
    refine Wp_ck (by rw [k92 s]) (Wp_bn (p92_10 s) (Wp_ck (by rw [k94 s]) (Wp_ck (by rw [k94 s]; exact inb_l 2 36 (by omega) (by omega)) ?_)))
    rw [ix_l 2 (by omega), cx.2.1.1 2 (by omega), il0]
    refine Wp_ifn (by rw [iv_lt (by omega) (by omega) (by omega) (by omega)]; omega) ?_
    obtain ⟨gu, egu⟩ : ∃ g, N = g + 1 + 1 + 1 := ⟨N - 3, by omega⟩
    have go : Wp (Mo_laysMeans_b50 N K8 K22 (Mo_laysMeans_b36 N K8 K22 fu) (gu + 1 + 1 + 1) 92 (iv hb) (iv u) (iv lf) (iv q) (iv t) (iv a) (iv 0) h) Q := by
      refine cell_laysMeans hN ho cx ab hq ht ⟨ha, by omega⟩ (Or.inl rfl) ?_
      intro h1 f1 r1
      have ab1 : AboveF H (Fq H C E hb lf u) q h1 := ab.upd hq ht ⟨ha, by omega⟩ (by omega) r1 ho
      refine cell_laysMeans hN ho (cx.fr f1) ab1 hq ht ⟨ha, by omega⟩ (Or.inr rfl) ?_
      intro h2 f2 r2
      rw [Mo_laysMeans_b50]
      refine Wp_ifp (by decide) ?_
      rw [il1, iv_add]
      have f3 := f1.tr f2
      refine ih (a + 1) h2 (by omega) (by omega) (cx.fr f3) (fr.tr f3) (ab1.upd hq ht ⟨ha, by omega⟩ (by omega) r2 ho) ?_ fu (by omega)
      exact d.upd hq ht ⟨ha, by omega⟩ r1 r2 ho
    rw [← egu] at go
    exact go
theorem t_laysMeans {N : Nat} {H C : Nat → Int} {E : Int → Int → Int → Int → Int → Int} {hb lf u : Int} {q : Int} {K8 : Nat → Int32 → Int32 → Int32 → Int32 → PH → Option (Unit × PH)} {Q : Unit → PH → Prop} (hN : 200 ≤ N) (ho : HOK H C) (hq : 0 ≤ q ∧ q ≤ H 0) {h0 : PH} (kk : ∀ h2, FrV h0 h2 → AboveF H (Fq H C E hb lf u) (q - 1) h2 → Wp (K8 92 (iv hb) (iv u) (iv lf) (iv (q - 1)) h2) Q) : ∀ (m : Nat) (t : Int) (h : PH), t + m = H 1 + 1 → 0 ≤ t → CxM N H C E hb lf u h → FrV h0 h → AboveF H (Fq H C E hb lf u) q h → DoneF H (Fq H C E hb lf u) q t 0 h → ∀ fuel, m < fuel → Wp (Mo_laysMeans_b22 N K8 fuel 92 (iv hb) (iv u) (iv lf) (iv q) (iv t) h) Q := by
  intro m
  have h01 := ho.1
  have h11 := ho.2.1
  have h21 := ho.2.2.1
  induction m with
  | zero =>
    intro t h e ht cx fr ab d fuel hf
    obtain ⟨fu, rfl⟩ : ∃ fu, fuel = fu + 1 := ⟨fuel - 1, by omega⟩
    have s := cx.1
    rw [Mo_laysMeans_b22]
    refine Wp_ck (by rw [k92 s]) (Wp_bn (p92_10 s) (Wp_ck (by rw [k94 s]) (Wp_ck (by rw [k94 s]; exact inb_l 1 36 (by omega) (by omega)) ?_)))
    rw [ix_l 1 (by omega), cx.2.1.1 1 (by omega), il1, iv_neg, iv_add, show q + -1 = q - 1 from by omega]
    refine Wp_ifp (by rw [iv_lt (by omega) (by omega) (by omega) (by omega)]; omega) ?_
    exact kk h fr (ab.next (d.row (by omega)))
  | succ m ih =>
    intro t h e ht cx fr ab d fuel hf
    obtain ⟨fu, rfl⟩ : ∃ fu, fuel = fu + 1 := ⟨fuel - 1, by omega⟩
    have s := cx.1
    rw [Mo_laysMeans_b22]
    refine Wp_ck (by rw [k92 s]) (Wp_bn (p92_10 s) (Wp_ck (by rw [k94 s]) (Wp_ck (by rw [k94 s]; exact inb_l 1 36 (by omega) (by omega)) ?_)))
    rw [ix_l 1 (by omega), cx.2.1.1 1 (by omega), il0]
    refine Wp_ifn (by rw [iv_lt (by omega) (by omega) (by omega) (by omega)]; omega) ?_
    refine a_laysMeans hN ho hq ⟨ht, by omega⟩ (h0 := h) ?_ (H 2 + 1).toNat 0 h (by omega) (by omega) cx FrV.rf ab d N (by omega)
    intro h2 g ab2 d2
    refine ih (t + 1) h2 (by omega) (by omega) (cx.fr g) (fr.tr g) ab2 ?_ fu (by omega)
    intro t3 a3 w3 b3 b4 b5 b6 b7 b8
    exact d2 t3 a3 w3 b3 b4 b5 b6 b7 (by omega)

theorem q_laysMeans {N : Nat} {H C n : Nat → Int} {E : Int → Int → Int → Int → Int → Int} {hb lf u : Int} (hN : 200 ≤ N) (ho : HOK H C) (nk : NOK H n) {h0 : PH} : ∀ (m : Nat) (q : Int) (h : PH), q + 1 = n 0 + m → q ≤ H 0 → CxM N H C E hb lf u h → NtM n h → FrV h0 h → AboveF H (Fq H C E hb lf u) q h → ∀ fuel, m < fuel → Wp (Mo_laysMeans_b8 N fuel 92 (iv hb) (iv u) (iv lf) (iv q) h) (fun _ h2 => FrV h0 h2 ∧ AboveF H (Fq H C E hb lf u) (n 0 - 1) h2) := by
  intro m
  have h01 := ho.1
  have h11 := ho.2.1
  have n01 := nk.1
  induction m with
  | zero =>
    intro q h e hq cx nt fr ab fuel hf
    obtain ⟨fu, rfl⟩ : ∃ fu, fuel = fu + 1 := ⟨fuel - 1, by omega⟩
    have s := cx.1
    rw [Mo_laysMeans_b8]
    refine Wp_ck (by rw [k92 s]) (Wp_bn (p92_35 s) (Wp_ck (by rw [k116 s]) (Wp_ck (by rw [k116 s]; exact inb_l 0 14 (by omega) (by omega)) ?_)))
    rw [ix_l 0 (by omega), nt 0 (by omega)]
    refine Wp_ifp (by rw [iv_lt (by omega) (by omega) (by omega) (by omega)]; omega) (Wp_ret ⟨fr, ?_⟩)
    rw [show n 0 - 1 = q from by omega]
    exact ab
  | succ m ih =>
    intro q h e hq cx nt fr ab fuel hf
    obtain ⟨fu, rfl⟩ : ∃ fu, fuel = fu + 1 := ⟨fuel - 1, by omega⟩
    have s := cx.1
    rw [Mo_laysMeans_b8]
    refine Wp_ck (by rw [k92 s]) (Wp_bn (p92_35 s) (Wp_ck (by rw [k116 s]) (Wp_ck (by rw [k116 s]; exact inb_l 0 14 (by omega) (by omega)) ?_)))
    rw [ix_l 0 (by omega), nt 0 (by omega)]
    refine Wp_ifn (by rw [iv_lt (by omega) (by omega) (by omega) (by omega)]; omega) ?_
    rw [il0]
    refine t_laysMeans hN ho ⟨by omega, hq⟩ (h0 := h) ?_ (H 1 + 1).toNat 0 h (by omega) (by omega) cx FrV.rf ab (fun t3 a3 w3 b3 b4 b5 b6 b7 b8 => by omega) N (by omega)
    intro h2 g ab2
    exact ih (q - 1) h2 (by omega) (by omega) (cx.fr g) (g.nt nt) (fr.tr g) ab2 fu (by omega)
theorem nowMeanM {N : Nat} {H C n : Nat → Int} {E : Int → Int → Int → Int → Int → Int} {hb lf u : Int} {h : PH} (hN : 200 ≤ N) (ho : HOK H C) (nk : NOK H n) (cx : CxM N H C E hb lf u h) (nt : NtM n h) : Wp (Mo_nowMean N 92 (iv hb) (iv u) (iv lf) h) (fun v h2 => v = iv (Fq H C E hb lf u (n 0) (n 1) (n 2) (n 7)) ∧ FrV h h2) := by
  have h01 := ho.1
  have h11 := ho.2.1
  have h21 := ho.2.2.1
  have n01 := nk.1
  have s := cx.1
  unfold Mo_nowMean Mo_laysMeans
  refine Wp_ck (by rw [k92 s]) (Wp_bd (Wp_ck (by rw [k92 s]) (Wp_bn (p92_10 s) (Wp_ck (by rw [k94 s]) (Wp_ck (by rw [k94 s]; exact inb_l 0 36 (by omega) (by omega)) ?_)))))
  rw [ix_l 0 (by omega), cx.2.1.1 0 (by omega)]
  refine Wp_mono (q_laysMeans hN ho nk (h0 := h) (H 0 + 1 - n 0).toNat (H 0) h (by omega) (Int.le_refl _) cx nt FrV.rf (fun q2 b0 b1 => by omega) N (by omega)) ?_
  rintro - h2 ⟨f, ab⟩
  have s2 := f.shp s
  have nt2 := f.nt nt
  obtain ⟨q1, q3, q4, -, -, -, -, i7, -⟩ := nk
  have pb := plM_b (q := n 0) (t := n 1) (a := n 2) (w := n 7) (by omega) (by omega) (by omega) (by omega)
  simp (disch := decide) only [bn_s, k92 s2, p92_35 s2, p92_44 s2, k116 s2, ck_T, inb_l, ix_l, eq_self]
  rw [nt2 0 (by omega), nt2 1 (by omega), nt2 2 (by omega), nt2 7 (by omega)]
  refine Wp_bde atM (Wp_ck (by rw [k121 s2]) (Wp_ck (by rw [k121 s2]; exact inb_iv pb.1 pb.2 (by omega)) (Wp_ret ⟨?_, f⟩)))
  rw [ix_iv pb.1 (by omega), ab (n 0) (by omega) (by omega) (n 1) (n 2) (n 7) q3.1 q3.2 q4.1 q4.2 i7]
