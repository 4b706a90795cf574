/-! THE PURE PROOFS, 18: FENCE, the class's way. -/
theorem set80 {N : Nat} {h : PH} {both q m c k s0 : Int} {r : Nat → Int} {K25 : Nat → Int32 → Int32 → Int32 → PH → Option (Unit × PH)} {K45 : Nat → Int32 → Int32 → Int32 → Int32 → Int32 → PH → Option (Unit × PH)} {Q : Unit → PH → Prop} (s : Shp h) (row : RowG 53 r h) (hm : 0 ≤ m ∧ m ≤ 3) (hk : 0 ≤ k ∧ k ≤ 3) (kk : Wp (K45 52 (iv both) (iv q) (iv m) (iv c) (iv (k + 1)) (wI h 53 (m + k).toNat (iv (r (m + k).toNat + c * s0)))) Q) : Wp (Sh_setChances_b80 N K25 K45 (iv s0) 52 (iv both) (iv q) (iv m) (iv c) (iv k) h) Q := by
  unfold Sh_setChances_b80
  rw [iv_add]
  refine Wp_ck (by rw [k52 s]) ?_
  rw [p52_0 s]
  refine Wp_bde (at_in (k53 s) (by omega) (by omega) (by omega)) ?_
  rw [row _ (by omega), iv_mul, iv_add]
  refine Wp_bde (put_in (k53 s) (by omega) (by omega) (by omega)) ?_
  rw [il1, iv_add]
  exact kk
theorem set45 {N : Nat} {H C : Nat → Int} {h : PH} {both q : Int} {m : Nat} {r : Nat → Int} {K25 : Nat → Int32 → Int32 → Int32 → PH → Option (Unit × PH)} {Q : Unit → PH → Prop} (hN0 : 100 ≤ N) (s : Shp h) (hs : HsL 10 H C h) (row : RowG 53 r h) (hb : both = 0 ∨ both = 1) (hq : 0 ≤ q ∧ q < 24) (hm : m ≤ 3) (kk : ∀ h2, FrI (fun b => b = 53) h h2 → RowG 53 (addM C both q m r) h2 → Wp (K25 52 (iv both) (iv q) (iv ((m : Int) + 1)) h2) Q) : Wp (Sh_setChances_b45 N K25 N 52 (iv both) (iv q) (iv m) (iv (ch C q m)) (iv 0) h) Q := by
  have step : ∀ (fu k : Nat) (r1 : Nat → Int) (h1 : PH), k ≤ 3 → FrI (fun b => b = 53) h h1 → RowG 53 r1 h1 → (∀ h2, FrI (fun b => b = 53) h h2 → RowG 53 (stp r1 (m + k) (ch C q m * oth C both q k)) h2 → Wp (Sh_setChances_b45 N K25 fu 52 (iv both) (iv q) (iv m) (iv (ch C q m)) (iv ((k : Int) + 1)) h2) Q) → Wp (Sh_setChances_b45 N K25 (fu + 1) 52 (iv both) (iv q) (iv m) (iv (ch C q m)) (iv k) h1) Q := by
    intro fu k r1 h1 hk f1 row1 kn
    have s1 := f1.shp s
    have hs1 : HsL 10 H C h1 := hs.fr f1.s (by omega) (by omega) (by omega) (by omega)
    have go : ∀ z : Int, z = oth C both q k → Wp (Sh_setChances_b80 N K25 (Sh_setChances_b45 N K25 fu) (iv z) 52 (iv both) (iv q) (iv m) (iv (ch C q m)) (iv k) h1) Q := by
      rintro z rfl
      refine set80 s1 row1 (by omega) (by omega) ?_
      rw [show ((m : Int) + (k : Int)).toNat = m + k from by omega]
      exact kn _ f1.w1 row1.put
    rw [Sh_setChances_b45]
    refine Wp_ifn (by rw [il3, iv_lt (by omega) (by omega) (by omega) (by omega)]; omega) ?_
    rw [il0, il10]
    refine Wp_if (fun c => ?_) (fun c => ?_)
    · rw [iv_eq (by omega) (by omega) (by omega) (by omega)] at c
      refine Wp_if (fun c2 => ?_) (fun c2 => ?_)
      · rw [iv_eq (by omega) (by omega) (by omega) (by omega)] at c2
        exact go 10 (by unfold oth; rw [if_pos c, if_pos c2])
      · rw [iv_eq (by omega) (by omega) (by omega) (by omega)] at c2
        exact go 0 (by unfold oth; rw [if_pos c, if_neg c2])
    · rw [iv_eq (by omega) (by omega) (by omega) (by omega)] at c
      refine Wp_ck (by rw [k52 s1]) (Wp_bn (p52_1 s1) (Wp_ck (by rw [k10 s1]) (Wp_bde (chL_eq s1 hs1 (Or.inl rfl) hq (by omega)) ?_)))
      exact go _ (by unfold oth cw; rw [if_neg c, if_pos rfl])
  obtain ⟨fu, efu⟩ : ∃ g, N = g + 1 + 1 + 1 + 1 + 1 := ⟨N - 5, by omega⟩
  have go : Wp (Sh_setChances_b45 N K25 (fu + 1 + 1 + 1 + 1 + 1) 52 (iv both) (iv q) (iv m) (iv (ch C q m)) (iv ((0 : Nat) : Int)) h) Q := by
    refine step _ 0 r h (by omega) FrI.rf row (fun h1 f1 r1 => ?_)
    refine step _ 1 _ h1 (by omega) f1 r1 (fun h2 f2 r2 => ?_)
    refine step _ 2 _ h2 (by omega) f2 r2 (fun h3 f3 r3 => ?_)
    refine step _ 3 _ h3 (by omega) f3 r3 (fun h4 f4 r4 => ?_)
    rw [Sh_setChances_b45]
    refine Wp_ifp (by decide) ?_
    rw [il1, iv_add]
    exact kk h4 f4 r4
  rw [← efu] at go
  exact go
theorem setL {N : Nat} {H C : Nat → Int} {h : PH} {both q : Int} (hN0 : 100 ≤ N) (s : Shp h) (hs : HsL 10 H C h) (hb : both = 0 ∨ both = 1) (hq : 0 ≤ q ∧ q < 24) : Wp (Sh_setChances N 52 (iv both) (iv q) h) (fun _ h2 => FrI (fun b => b = 53) h h2 ∧ RowG 53 (gwt C both q) h2) := by
  have step25 : ∀ (fu m : Nat) (r : Nat → Int) (h1 : PH) (Q : Unit → PH → Prop), m ≤ 3 → FrI (fun b => b = 53) h h1 → RowG 53 r h1 → (∀ h2, FrI (fun b => b = 53) h h2 → RowG 53 (addM C both q m r) h2 → Wp (Sh_setChances_b25 N fu 52 (iv both) (iv q) (iv ((m : Int) + 1)) h2) Q) → Wp (Sh_setChances_b25 N (fu + 1) 52 (iv both) (iv q) (iv m) h1) Q := by
    intro fu m r h1 Q hm f1 row kn
    have s1 := f1.shp s
    have hs1 : HsL 10 H C h1 := hs.fr f1.s (by omega) (by omega) (by omega) (by omega)
    rw [Sh_setChances_b25]
    refine Wp_ifn (by rw [il3, iv_lt (by omega) (by omega) (by omega) (by omega)]; omega) (Wp_ck (by rw [k52 s1]) (Wp_bn (p52_1 s1) (Wp_ck (by rw [k10 s1]) ?_)))
    rw [il0]
    refine Wp_bde (chL_eq s1 hs1 (Or.inl rfl) hq (by omega)) ?_
    rw [show cw C 0 q m = ch C q m from by unfold cw; rw [if_pos rfl]]
    exact set45 hN0 s1 hs1 row hb hq hm (fun h2 f2 r2 => kn h2 (f1.tr f2) r2)
  have fin : ∀ h1, FrI (fun b => b = 53) h h1 → RowG 53 (fun _ => 0) h1 → Wp (Sh_setChances_b25 N N 52 (iv both) (iv q) (iv 0) h1) (fun _ h2 => FrI (fun b => b = 53) h h2 ∧ RowG 53 (gwt C both q) h2) := by
    intro h1 f1 r1
    obtain ⟨fu, efu⟩ : ∃ g, N = g + 1 + 1 + 1 + 1 + 1 := ⟨N - 5, by omega⟩
    have go : Wp (Sh_setChances_b25 N (fu + 1 + 1 + 1 + 1 + 1) 52 (iv both) (iv q) (iv ((0 : Nat) : Int)) h1) (fun _ h2 => FrI (fun b => b = 53) h h2 ∧ RowG 53 (gwt C both q) h2) := by
      refine step25 _ 0 _ h1 _ (by omega) f1 r1 (fun h2 f2 r2 => ?_)
      refine step25 _ 1 _ h2 _ (by omega) f2 r2 (fun h3 f3 r3 => ?_)
      refine step25 _ 2 _ h3 _ (by omega) f3 r3 (fun h4 f4 r4 => ?_)
      refine step25 _ 3 _ h4 _ (by omega) f4 r4 (fun h5 f5 r5 => ?_)
      rw [Sh_setChances_b25]
      exact Wp_ifp (by decide) (Wp_ret ⟨f5, r5⟩)
    rw [← efu] at go
    exact go
  have key : ∀ (m k : Nat) (h1 : PH), k + m = 7 → FrI (fun b => b = 53) h h1 → (∀ j, j < k → hI h1 53 j = iv 0) → ∀ fuel, m < fuel → Wp (Sh_setChances_b2 N fuel 52 (iv both) (iv q) (iv k) h1) (fun _ h2 => FrI (fun b => b = 53) h h2 ∧ RowG 53 (gwt C both q) h2) := by
    intro m
    induction m with
    | zero =>
      intro k h1 e f1 d fuel hf
      obtain ⟨fu, rfl⟩ : ∃ fu, fuel = fu + 1 := ⟨fuel - 1, by omega⟩
      rw [Sh_setChances_b2]
      refine Wp_ifp (by rw [il6, iv_lt (by omega) (by omega) (by omega) (by omega)]; omega) ?_
      rw [il0]
      exact fin h1 f1 (fun j hj => d j (by omega))
    | succ m ih =>
      intro k h1 e f1 d fuel hf
      obtain ⟨fu, rfl⟩ : ∃ fu, fuel = fu + 1 := ⟨fuel - 1, by omega⟩
      have s1 := f1.shp s
      rw [Sh_setChances_b2]
      refine Wp_ifn (by rw [il6, iv_lt (by omega) (by omega) (by omega) (by omega)]; omega) (Wp_ck (by rw [k52 s1]) ?_)
      rw [p52_0 s1]
      refine Wp_bde (put_in (k53 s1) (by omega) (by omega) (by omega)) ?_
      rw [il0, il1, iv_add, Int.toNat_natCast]
      have r := ih (k + 1) (wI h1 53 k (iv 0)) (by omega) f1.w1 (fun j hj => by
        rw [hI_wI]
        by_cases cj : j = k
        · rw [if_pos ⟨rfl, cj⟩]
        · rw [if_neg (fun e => cj e.2)]
          exact d j (by omega)) fu (by omega)
      rw [show ((k + 1 : Nat) : Int) = (k : Int) + 1 from by omega] at r
      exact r
  unfold Sh_setChances
  rw [il0]
  exact key 7 0 h (by omega) FrI.rf (fun j hj => by omega) N (by omega)
def RowU (f : Int → Int) (a : Nat) (most : Int) (h : PH) : Prop := ∀ t : Int, 0 ≤ t → t ≤ most → hI h a t.toNat = iv (f t)
theorem plainGL {N nw nx : Nat} {H C : Nat → Int} {h : PH} {q t here most : Int} {f : Int → Int} (hN0 : 100 ≤ N) (ho : HOK H C) (hs : HsL 10 H C h) (sh : ShS nw nx h) (row : RowU f nx most h) (b : BT f (-41000000) 43000000) (hq : 0 ≤ q ∧ q < H 0) (ht : 0 ≤ t ∧ t ≤ most) (hmo : most ≤ 240) (hh : 0 ≤ here ∧ here ≤ 6) : Sh_plainGreatest N 52 (iv q) (iv t) (iv here) h = some (iv (fG H f q here t), h) := by
  have h01 := ho.1
  have s := sh.1
  have fb : ∀ how : Int, 0 ≤ how ∧ how ≤ 4 → -42000000 ≤ fv H f q here t how ∧ fv H f q here t how ≤ 45000000 := by
    intro how hw
    have g := g6_b ho (q := q) hw hh ht.1
    have x := b (gt H q here how t 0) (by omega) (by omega)
    unfold fv
    omega
  have step : ∀ (fu : Nat) (k x4 : Int), 0 ≤ k → k ≤ 3 → (k ≠ 0 → -42000000 ≤ x4 ∧ x4 ≤ 45000000) → Sh_plainGreatest_b6 N (fu + 1) 52 (iv q) (iv t) (iv here) (iv x4) (iv k) h = Sh_plainGreatest_b6 N fu 52 (iv q) (iv t) (iv here) (iv (if k = 0 then fv H f q here t k else max x4 (fv H f q here t k))) (iv (k + 1)) h := by
    intro fu k x4 k0 k3 hx
    have g := g6_b ho (q := q) (here := here) (how := k) (by omega) hh ht.1
    have fk := fb k (by omega)
    obtain ⟨c1, c2, c3, c4⟩ := cg_all (H := H) (q := q) (here := here) (how := k) (t := t) (a := 0) hh.1 (by omega) ht.1 (Int.le_refl 0)
    have ef : 1000 * gv H q here k t 0 + f (gt H q here k t 0) = fv H f q here t k := rfl
    rw [Sh_plainGreatest_b6]
    unfold Sh_plainGreatest_b69
    dsimp only
    rw [il3, if_neg (by rw [iv_lt (by omega) (by omega) (by omega) (by omega)]; omega), ck_p (by rw [k52 s]), p52_1 s, bn_s, ck_p (by rw [k10 s]), il0, cgv_eq s ho hs (by omega) (by omega) (by omega) (by omega) (by omega), bd_s, ck_p (by rw [k52 s]), p52_1 s, bn_s, ck_p (by rw [k10 s]), cgt_eq (by omega) (by omega) (by omega), bd_s, sh.2.2.1, iv_sub, ← c2, ← c1, at_in sh.k.2 (by omega) (by omega) (by omega), bd_s, row _ (by omega) (by omega), il1000, iv_mul, iv_add, ef, il1, iv_add]
    simp only [show (iv k = iv 0) ↔ k = 0 from iv_eq (by omega) (by omega) (by omega) (by omega)]
    by_cases c : k = 0
    · rw [if_pos c, if_pos c]
    · have hx2 := hx c
      rw [if_neg c, if_neg c, iv_mx (by omega) (by omega) (by omega) (by omega)]
  have f0 := fb 0 (by omega)
  have f1 := fb 1 (by omega)
  have f2 := fb 2 (by omega)
  have f3 := fb 3 (by omega)
  obtain ⟨fu, rfl⟩ : ∃ g, N = g + 1 + 1 + 1 + 1 + 1 := ⟨N - 5, by omega⟩
  unfold Sh_plainGreatest
  rw [il0, step _ 0 _ (by omega) (by omega) (by omega), if_pos rfl, show (0 : Int) + 1 = 1 from rfl, step _ 1 _ (by omega) (by omega) (fun _ => by omega), if_neg (by omega), show (1 : Int) + 1 = 2 from rfl, step _ 2 _ (by omega) (by omega) (fun _ => by omega), if_neg (by omega), show (2 : Int) + 1 = 3 from rfl, step _ 3 _ (by omega) (by omega) (fun _ => by omega), if_neg (by omega), show (3 : Int) + 1 = 4 from rfl, Sh_plainGreatest_b6]
  dsimp only
  rw [if_pos (by decide)]
  rfl
theorem plainML {N nw nx : Nat} {H C : Nat → Int} {h : PH} {both q t most : Int} {f : Int → Int} (hN0 : 100 ≤ N) (ho : HOK H C) (hs : HsL 10 H C h) (sh : ShS nw nx h) (row : RowU f nx most h) (b : BT f (-41000000) 43000000) (hb : both = 0 ∨ both = 1) (rg : RowG 53 (gwt C both q) h) (hq : 0 ≤ q ∧ q < H 0) (ht : 0 ≤ t ∧ t ≤ most) (hmo : most ≤ 240) : Sh_plainMean N 52 (iv q) (iv t) h = some (iv ((fSum H C both f q t).tdiv 100), h) := by
  have h01 := ho.1
  have s := sh.1
  have sb := fSum_b ho b hb (q := q) (t := t) (by omega) (by omega)
  obtain ⟨⟨w0, w1, w2, w3, w4, w5, w6⟩, ws⟩ := gwt_sum ho hb (q := q) (by omega)
  have step : ∀ (fu k : Nat) (sum : Int), k ≤ 6 → 0 ≤ gwt C both q k → gwt C both q k ≤ 100 → Sh_plainMean_b5 N (fu + 1) 52 (iv q) (iv t) (jv sum) (iv k) h = Sh_plainMean_b5 N fu 52 (iv q) (iv t) (jv (sum + gwt C both q k * fG H f q k t)) (iv ((k : Int) + 1)) h := by
    intro fu k sum hk g0 g1
    have gb := fG_b ho b (q := q) (here := k) (t := t) (by omega) (by omega)
    rw [Sh_plainMean_b5]
    unfold Sh_plainMean_b44
    dsimp only
    rw [il6, if_neg (by rw [iv_lt (by omega) (by omega) (by omega) (by omega)]; omega), ck_p (by rw [k52 s]), p52_0 s, at_in (k53 s) (by omega) (by omega) (by omega), bd_s, Int.toNat_natCast, rg k (by omega), il0, il1, iv_add]
    simp only [show (iv (gwt C both q k) ≤ iv 0) ↔ gwt C both q k ≤ 0 from iv_le (by omega) (by omega) (by omega) (by omega)]
    by_cases c : gwt C both q k ≤ 0
    · rw [if_pos c, show gwt C both q k = 0 from by omega, Int.zero_mul, Int.add_zero]
    · rw [if_neg c, ck_p (by rw [k52 s]), plainGL hN0 ho hs sh row b hq ht hmo (by omega), bd_s, iv_wide (by omega) (by omega), iv_wide (by omega) (by omega), jv_mul, jv_add]
  obtain ⟨fu, efu⟩ : ∃ g, N = g + 1 + 1 + 1 + 1 + 1 + 1 + 1 + 1 := ⟨N - 8, by omega⟩
  have s0 := step (fu + 1 + 1 + 1 + 1 + 1 + 1 + 1) 0 0 (by omega) w0 (by omega)
  have s1 := step (fu + 1 + 1 + 1 + 1 + 1 + 1) 1 (0 + gwt C both q 0 * fG H f q (0 : Nat) t) (by omega) w1 (by omega)
  have s2 := step (fu + 1 + 1 + 1 + 1 + 1) 2 (0 + gwt C both q 0 * fG H f q (0 : Nat) t + gwt C both q 1 * fG H f q (1 : Nat) t) (by omega) w2 (by omega)
  have s3 := step (fu + 1 + 1 + 1 + 1) 3 (0 + gwt C both q 0 * fG H f q (0 : Nat) t + gwt C both q 1 * fG H f q (1 : Nat) t + gwt C both q 2 * fG H f q (2 : Nat) t) (by omega) w3 (by omega)
  have s4 := step (fu + 1 + 1 + 1) 4 (0 + gwt C both q 0 * fG H f q (0 : Nat) t + gwt C both q 1 * fG H f q (1 : Nat) t + gwt C both q 2 * fG H f q (2 : Nat) t + gwt C both q 3 * fG H f q (3 : Nat) t) (by omega) w4 (by omega)
  have s5 := step (fu + 1 + 1) 5 (0 + gwt C both q 0 * fG H f q (0 : Nat) t + gwt C both q 1 * fG H f q (1 : Nat) t + gwt C both q 2 * fG H f q (2 : Nat) t + gwt C both q 3 * fG H f q (3 : Nat) t + gwt C both q 4 * fG H f q (4 : Nat) t) (by omega) w5 (by omega)
  have s6 := step (fu + 1) 6 (0 + gwt C both q 0 * fG H f q (0 : Nat) t + gwt C both q 1 * fG H f q (1 : Nat) t + gwt C both q 2 * fG H f q (2 : Nat) t + gwt C both q 3 * fG H f q (3 : Nat) t + gwt C both q 4 * fG H f q (4 : Nat) t + gwt C both q 5 * fG H f q (5 : Nat) t) (by omega) w6 (by omega)
  have e : 0 + gwt C both q 0 * fG H f q (0 : Nat) t + gwt C both q 1 * fG H f q (1 : Nat) t + gwt C both q 2 * fG H f q (2 : Nat) t + gwt C both q 3 * fG H f q (3 : Nat) t + gwt C both q 4 * fG H f q (4 : Nat) t + gwt C both q 5 * fG H f q (5 : Nat) t + gwt C both q 6 * fG H f q (6 : Nat) t = fSum H C both f q t := by
    unfold fSum
    rw [Int.zero_add]
    rfl
  have go : Sh_plainMean_b5 N (fu + 1 + 1 + 1 + 1 + 1 + 1 + 1 + 1) 52 (iv q) (iv t) (jv 0) (iv ((0 : Nat) : Int)) h = some (iv ((fSum H C both f q t).tdiv 100), h) := by
    refine s0.trans (s1.trans (s2.trans (s3.trans (s4.trans (s5.trans (s6.trans ?_))))))
    rw [e, Sh_plainMean_b5]
    dsimp only
    rw [if_pos (by decide), ck_p (by decide), jl100, jv_div (by omega) (by omega) (by omega) (by omega), jv_narrow]
  rw [← efu] at go
  unfold Sh_plainMean
  rw [jl0, il0]
  exact go
theorem fence91 {N nw nx : Nat} {H C : Nat → Int} {both q most : Int} {x2 x3 x4 : Int32} {K : Nat → Int32 → Int32 → Int32 → Int32 → Int32 → Int32 → PH → Option (Int32 × PH)} {Q : Int32 → PH → Prop} (hN : 100 ≤ N) (ho : HOK H C) (hb : both = 0 ∨ both = 1) (hq : 0 ≤ q ∧ q < H 0) (hmo : 0 ≤ most ∧ most ≤ 240) {h0 : PH} (kk : ∀ h2, FrI SSh h0 h2 → HsL 10 H C h2 → ShS nw nx h2 → RowU (Tq H C both q) nw most h2 → Wp (K 52 (iv both) x2 x3 x4 (iv most) (iv (q - 1)) h2) Q) : ∀ (m : Nat) (t : Int) (h : PH), t + m = most + 1 → 0 ≤ t → HsL 10 H C h → ShS nw nx h → FrI SSh h0 h → RowU (Tq H C both (q + 1)) nx most h → RowG 53 (gwt C both q) h → RowU (Tq H C both q) nw (t - 1) h → ∀ fuel, m < fuel → Wp (Sh_apartOrOne_b91 N K fuel 52 (iv both) x2 x3 x4 (iv most) (iv q) (iv t) h) Q := by
  intro m
  have h01 := ho.1
  induction m with
  | zero =>
    intro t h e ht hs sh fr row rg d fuel hf
    obtain ⟨fu, rfl⟩ : ∃ fu, fuel = fu + 1 := ⟨fuel - 1, by omega⟩
    rw [Sh_apartOrOne_b91]
    dsimp only
    rw [il1, iv_neg, iv_add, show q + -1 = q - 1 from by omega]
    refine Wp_ifp (by rw [iv_lt (by omega) (by omega) (by omega) (by omega)]; omega) ?_
    exact kk h fr hs sh (by rw [show most = t - 1 from by omega]; exact d)
  | succ m ih =>
    intro t h e ht hs sh fr row rg d fuel hf
    obtain ⟨fu, rfl⟩ : ∃ fu, fuel = fu + 1 := ⟨fuel - 1, by omega⟩
    have s := sh.1
    have c := sh.2.2.2
    have b := Tq_b ho hb (q := q + 1) (by omega)
    rw [Sh_apartOrOne_b91]
    refine Wp_ifn (by rw [iv_lt (by omega) (by omega) (by omega) (by omega)]; omega) (Wp_ck (by rw [k52 s]) ?_)
    refine Wp_bde (plainML hN ho hs sh row b hb rg hq ⟨ht, by omega⟩ hmo.2) ?_
    rw [sh.2.1]
    refine Wp_bde (put_in sh.k.1 (by omega) ht (by omega)) ?_
    rw [il1, iv_add]
    have f1 : FrI (fun b => b = nw) h (wI h nw t.toNat (iv ((fSum H C both (Tq H C both (q + 1)) q t).tdiv 100))) := FrI.rf.w1
    refine ih (t + 1) _ (by omega) (by omega) (hs.fr f1.s (by omega) (by omega) (by omega) (by omega)) (sh.fr f1) (fr.tr (f1.up (fun b e => by unfold SSh; omega))) (fun t2 b0 b1 => (f1.I (by omega) _).trans (row t2 b0 b1)) (fun j hj => (f1.I (by omega) _).trans (rg j hj)) ?_ fu (by omega)
    intro t2 b0 b1
    rw [hI_wI]
    by_cases ct : t2 = t
    · rw [if_pos (by omega), ct, Tq_lt hq.2]
    · rw [if_neg (by omega)]
      exact d t2 b0 (by omega)
theorem fence71 {N : Nat} {H C : Nat → Int} {both q0 ours theirs most : Int} (hN0 : 400 ≤ N) (ho : HOK H C) (hb : both = 0 ∨ both = 1) (hq0 : 0 ≤ q0 ∧ q0 ≤ H 0) (hmo : 0 ≤ most ∧ most ≤ 240) (ho1 : 0 ≤ ours ∧ (both = 0 → ours ≤ most)) (ht1 : 0 ≤ theirs ∧ (both = 0 → theirs ≤ most)) {h0 : PH} (hn : 127 ≤ hN h0) : ∀ (m : Nat) (q : Int) (nw nx : Nat) (h : PH), q = q0 + m → q ≤ H 0 → HsL 10 H C h → ShS nw nx h → FrH SSh h0 h → hN h = hN h0 → hS h = hS h0 → RowU (Tq H C both q) nw most h → ∀ fuel, m < fuel → Wp (Sh_apartOrOne_b71 N fuel 52 (iv both) (iv q0) (iv ours) (iv theirs) (iv most) (iv (q - 1)) h) (fun v h2 => v = iv (if both = 0 then Tq H C both q0 ours + Tq H C both q0 theirs else Tq H C both q0 most) ∧ FrH SSh h0 h2 ∧ hN h2 = hN h0 ∧ hS h2 = hS h0 ∧ HsL 10 H C h2 ∧ ShP h2) := by
  intro m
  have h01 := ho.1
  induction m with
  | zero =>
    intro q nw nx h e hq hs sh fr n1 m1 row fuel hf
    obtain ⟨fu, rfl⟩ : ∃ fu, fuel = fu + 1 := ⟨fuel - 1, by omega⟩
    have eq : q = q0 := by omega
    subst eq
    have s := sh.1
    have k := sh.k.1
    rw [Sh_apartOrOne_b71]
    refine Wp_ifp (by rw [iv_lt (by omega) (by omega) (by omega) (by omega)]; omega) ?_
    rw [sh.2.1]
    refine Wp_if (fun c => ?_) (fun c => ?_)
    · rw [il0, iv_eq (by omega) (by omega) (by omega) (by omega)] at c
      have o2 := ho1.2 c
      have t2 := ht1.2 c
      refine Wp_ck (by rw [k52 s]) (Wp_bde (at_in k (by omega) ho1.1 (by omega)) (Wp_ck (by rw [k52 s]) ?_))
      rw [sh.2.1]
      refine Wp_bde (at_in k (by omega) ht1.1 (by omega)) (Wp_ret ⟨?_, fr, n1, m1, hs, nw, nx, sh⟩)
      rw [row _ ho1.1 o2, row _ ht1.1 t2, iv_add, if_pos c]
    · rw [il0, iv_eq (by omega) (by omega) (by omega) (by omega)] at c
      refine Wp_ck (by rw [k52 s]) (Wp_bde (at_in k (by omega) hmo.1 (by omega)) (Wp_ret ⟨?_, fr, n1, m1, hs, nw, nx, sh⟩))
      rw [row _ hmo.1 (Int.le_refl _), if_neg c]
  | succ m ih =>
    intro q nw nx h e hq hs sh fr n1 m1 row fuel hf
    obtain ⟨fu, rfl⟩ : ∃ fu, fuel = fu + 1 := ⟨fuel - 1, by omega⟩
    have s := sh.1
    obtain ⟨h1, e1, sh1, f1, i1, n2, m2⟩ := swapS (N := N) sh
    have s1 := sh1.1
    have hs1 : HsL 10 H C h1 := hs.frH f1 (by omega) (by unfold SSh; omega) (by unfold SSh; omega) (by unfold SSh; omega) (by unfold SSh; omega)
    rw [Sh_apartOrOne_b71]
    refine Wp_ifn (by rw [iv_lt (by omega) (by omega) (by omega) (by omega)]; omega) (Wp_ck (by rw [k52 s]) (Wp_bde e1 (Wp_ck (by rw [k52 s1]) ?_)))
    refine Wp_bd2 (setL (by omega) s1 hs1 hb (by omega)) ?_
    rintro - h2 ⟨f2, rg⟩
    have c := sh1.2.2.2
    have f2s : FrI SSh h1 h2 := f2.up (fun b e => by unfold SSh; omega)
    rw [il0]
    refine fence91 (by omega) ho hb ⟨by omega, by omega⟩ hmo (h0 := h1) ?_ (most + 1).toNat 0 h2 (by omega) (by omega) (hs1.fr f2.s (by omega) (by omega) (by omega) (by omega)) (sh1.fr f2) f2s ?_ rg (fun t2 b0 b1 => by omega) N (by omega)
    · intro h3 f3 hs3 sh3 row3
      refine ih (q - 1) nx nw h3 (by omega) (by omega) hs3 sh3 (fr.tr (f1.tr f3.h)) ?_ ?_ row3 fu (by omega)
      · unfold hN at n2 n1 ⊢; rw [f3.1, n2, n1]
      · unfold hS at m2 m1 ⊢; rw [f3.1, m2, m1]
    · rw [show q - 1 + 1 = q from by omega]
      intro t b0 b1
      rw [f2.I (by omega), i1]
      exact row t b0 b1
theorem apartL {N : Nat} {H C : Nat → Int} {both q0 ours theirs : Int} {h : PH} (hN0 : 400 ≤ N) (ho : HOK H C) (hb : both = 0 ∨ both = 1) (hq0 : 0 ≤ q0 ∧ q0 ≤ H 0) (ho1 : 0 ≤ ours ∧ ours ≤ 120) (ht1 : 0 ≤ theirs ∧ theirs ≤ 120) (hn : 127 ≤ hN h) (hs : HsL 10 H C h) (sh : ShP h) : Wp (Sh_apartOrOne N 52 (iv both) (iv q0) (iv ours) (iv theirs) h) (fun v h2 => v = iv (if both = 0 then Tq H C both q0 ours + Tq H C both q0 theirs else Tq H C both q0 (ours + theirs)) ∧ FrH SSh h h2 ∧ hN h2 = hN h ∧ hS h2 = hS h ∧ HsL 10 H C h2 ∧ ShP h2) := by
  obtain ⟨nw, nx, sh⟩ := sh
  have h01 := ho.1
  have c := sh.2.2.2
  have body : ∀ most : Int, (both = 0 → most = max ours theirs) → (both = 1 → most = ours + theirs) → Wp (Sh_apartOrOne_b17 N (iv most) 52 (iv both) (iv q0) (iv ours) (iv theirs) h) (fun v h2 => v = iv (if both = 0 then Tq H C both q0 ours + Tq H C both q0 theirs else Tq H C both q0 (ours + theirs)) ∧ FrH SSh h h2 ∧ hN h2 = hN h ∧ hS h2 = hS h ∧ HsL 10 H C h2 ∧ ShP h2) := by
    intro most m0 m1
    have hmo : 0 ≤ most ∧ most ≤ 240 := by
      rcases hb with b | b
      · have := m0 b; omega
      · have := m1 b; omega
    have key : ∀ (m : Nat) (t : Int) (h1 : PH), t + m = most + 1 → 0 ≤ t → FrI SSh h h1 → HsL 10 H C h1 → ShS nw nx h1 → RowU (Tq H C both (H 0)) nw (t - 1) h1 → ∀ fuel, m < fuel → Wp (Sh_apartOrOne_b22 N fuel 52 (iv both) (iv q0) (iv ours) (iv theirs) (iv most) (iv t) h1) (fun v h2 => v = iv (if both = 0 then Tq H C both q0 ours + Tq H C both q0 theirs else Tq H C both q0 most) ∧ FrH SSh h h2 ∧ hN h2 = hN h ∧ hS h2 = hS h ∧ HsL 10 H C h2 ∧ ShP h2) := by
      intro m
      induction m with
      | zero =>
        intro t h1 e ht f1 hs1 sh1 d fuel hf
        obtain ⟨fu, rfl⟩ : ∃ fu, fuel = fu + 1 := ⟨fuel - 1, by omega⟩
        have s1 := sh1.1
        rw [Sh_apartOrOne_b22]
        refine Wp_ifp (by rw [iv_lt (by omega) (by omega) (by omega) (by omega)]; omega) (Wp_ck (by rw [k52 s1]) (Wp_bn (p52_1 s1) (Wp_ck (by rw [k10 s1]) ?_)))
        rw [hs1.1, il1, iv_sub]
        have n1 : hN h1 = hN h := by unfold hN; rw [f1.1]
        have m1' : hS h1 = hS h := by unfold hS; rw [f1.1]
        exact fence71 hN0 ho hb hq0 hmo ⟨ho1.1, fun b => by have := m0 b; omega⟩ ⟨ht1.1, fun b => by have := m0 b; omega⟩ hn (H 0 - q0).toNat (H 0) nw nx h1 (by omega) (Int.le_refl _) hs1 sh1 f1.h n1 m1' (by rw [show most = t - 1 from by omega]; exact d) N (by omega)
      | succ m ih =>
        intro t h1 e ht f1 hs1 sh1 d fuel hf
        obtain ⟨fu, rfl⟩ : ∃ fu, fuel = fu + 1 := ⟨fuel - 1, by omega⟩
        have s1 := sh1.1
        rw [Sh_apartOrOne_b22]
        refine Wp_ifn (by rw [iv_lt (by omega) (by omega) (by omega) (by omega)]; omega) (Wp_ck (by rw [k52 s1]) (Wp_bn (p52_1 s1) (Wp_ck (by rw [k10 s1]) ?_)))
        rw [hs1.1]
        refine Wp_bde (off_eq s1 hs1) ?_
        rw [sh1.2.1]
        refine Wp_bde (put_in sh1.k.1 (by omega) ht (by omega)) ?_
        rw [il1, iv_add]
        have f2 : FrI (fun b => b = nw) h1 (wI h1 nw t.toNat (iv (off0 H (H 0) t))) := FrI.rf.w1
        refine ih (t + 1) _ (by omega) (by omega) (f1.tr (f2.up (fun b e => by unfold SSh; omega))) (hs1.fr f2.s (by omega) (by omega) (by omega) (by omega)) (sh1.fr f2) ?_ fu (by omega)
        intro t2 b0 b1
        rw [hI_wI]
        by_cases ct : t2 = t
        · rw [if_pos (by omega), ct, Tq_end rfl]
        · rw [if_neg (by omega)]
          exact d t2 b0 (by omega)
    unfold Sh_apartOrOne_b17
    rw [il0]
    refine Wp_mono (key (most + 1).toNat 0 h (by omega) (by omega) FrI.rf hs sh (fun t2 b0 b1 => by omega) N (by omega)) ?_
    rintro v h2 ⟨rfl, r⟩
    refine ⟨?_, r⟩
    rcases hb with b | b
    · rw [if_pos b, if_pos b]
    · rw [if_neg (by omega), if_neg (by omega), m1 b]
  unfold Sh_apartOrOne
  rw [iv_mx (by omega) (by omega) (by omega) (by omega), iv_add]
  refine Wp_if (fun c => ?_) (fun c => ?_)
  · rw [il0, iv_eq (by omega) (by omega) (by omega) (by omega)] at c
    exact body _ (fun _ => rfl) (fun b => by omega)
  · rw [il0, iv_eq (by omega) (by omega) (by omega) (by omega)] at c
    exact body _ (fun b => by omega) (fun _ => rfl)
theorem overL2 {N : Nat} {H C : Nat → Int} {q0 ours theirs : Int} {h : PH} (hN0 : 400 ≤ N) (ho : HOK H C) (hq0 : 0 ≤ q0 ∧ q0 ≤ H 0) (ho1 : 0 ≤ ours ∧ ours ≤ 120) (ht1 : 0 ≤ theirs ∧ theirs ≤ 120) (hn : 127 ≤ hN h) (s : Shp h) (hs : HsL 10 H C h) (sh : ShP h) : Wp (Sh_overFence N 52 (iv q0) (iv ours) (iv theirs) h) (fun v h2 => v = iv (Tq H C 1 q0 (ours + theirs) - Tq H C 0 q0 ours - Tq H C 0 q0 theirs) ∧ FrH SSh h h2 ∧ hN h2 = hN h ∧ hS h2 = hS h ∧ ShP h2) := by
  unfold Sh_overFence
  rw [il0, il1]
  refine Wp_ck (by rw [k52 s]) (Wp_bd2 (apartL hN0 ho (Or.inl rfl) hq0 ho1 ht1 hn hs sh) ?_)
  rintro v h1 ⟨rfl, f1, n1, m1, hs1, sh1⟩
  refine Wp_ck (by rw [k52 (f1.1 s)]) (Wp_bd2 (apartL hN0 ho (Or.inr rfl) hq0 ho1 ht1 (by omega) hs1 sh1) ?_)
  rintro v h2 ⟨rfl, f2, n2, m2, hs2, sh2⟩
  refine Wp_ret ⟨?_, f1.tr f2, by omega, by omega, sh2⟩
  rw [if_neg (by omega), if_pos rfl, iv_sub]
  congr 1
  omega
