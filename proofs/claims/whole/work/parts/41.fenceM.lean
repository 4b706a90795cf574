/-! THE PURE PROOFS, 19: FENCE, the reference's way. -/
theorem FrV.f {h0 h : PH} {i : Nat} {v : Int32} (f : FrV h0 h) : FrV h0 (wI h 122 i v) := f.tr ⟨FrI.rf.w (Or.inr (Or.inr (Or.inr (Or.inl rfl)))), fun j _ _ _ _ => by rw [hI_wI, if_neg (by omega)]⟩
theorem FrV.g {h0 h : PH} {i : Nat} {v : Int32} (f : FrV h0 h) : FrV h0 (wI h 123 i v) := f.tr ⟨FrI.rf.w (Or.inr (Or.inr (Or.inr (Or.inr rfl)))), fun j _ _ _ _ => by rw [hI_wI, if_neg (by omega)]⟩
theorem chanceAt {N : Nat} {H C : Nat → Int} {h : PH} {q k : Int} (hs : HsM H C h) (hq : 0 ≤ q ∧ q < 24) (hk : 0 ≤ k ∧ k < 4) : hI h 95 (4 * q + k).toNat = iv (ch C q k) := hs.2 _ (by omega)
/-- what the weights' laying leaves -/
def FrC (h h2 : PH) : Prop := FrV h h2 ∧ (∀ i, hI h2 122 i = hI h 122 i)
theorem FrC.tr {h h1 h2 : PH} (a : FrC h h1) (b : FrC h1 h2) : FrC h h2 := ⟨a.1.tr b.1, fun i => (b.2 i).trans (a.2 i)⟩
theorem FrC.w {h0 h : PH} {i : Nat} {v : Int32} (f : FrC h0 h) : FrC h0 (wI h 123 i v) := ⟨f.1.g, fun j => by rw [hI_wI, if_neg (by omega)]; exact f.2 j⟩
theorem lays54 {N : Nat} {H C : Nat → Int} {h : PH} {q : Int} {m : Nat} {r : Nat → Int} {K23 : Nat → Int32 → Int32 → Int32 → PH → Option (Unit × PH)} {Q : Unit → PH → Prop} (hN0 : 100 ≤ N) (s : Shp h) (hs : HsM H C h) (row : RowG 123 r h) (hq : 0 ≤ q ∧ q < 24) (hm : m ≤ 3) (kk : ∀ h2, FrC h h2 → RowG 123 (addM C 1 q m r) h2 → Wp (K23 92 (iv q) (iv 1) (iv ((m : Int) + 1)) h2) Q) : Wp (Mo_laysChances_b54 N K23 N 92 (iv q) (iv 1) (iv m) (iv 0) h) Q := by
  have step : ∀ (fu k : Nat) (r1 : Nat → Int) (h1 : PH), k ≤ 3 → FrC h h1 → RowG 123 r1 h1 → (∀ h2, FrC h h2 → RowG 123 (stp r1 (m + k) (ch C q m * oth C 1 q k)) h2 → Wp (Mo_laysChances_b54 N K23 fu 92 (iv q) (iv 1) (iv m) (iv ((k : Int) + 1)) h2) Q) → Wp (Mo_laysChances_b54 N K23 (fu + 1) 92 (iv q) (iv 1) (iv m) (iv k) h1) Q := by
    intro fu k r1 h1 hk f1 row1 kn
    have s1 := f1.1.shp s
    have hs1 := f1.1.hs hs
    rw [Mo_laysChances_b54]
    refine Wp_ifn (by rw [il4, iv_le (by omega) (by omega) (by omega) (by omega)]; omega) (Wp_ifn (by decide) (Wp_ck (by rw [k92 s1]) (Wp_bn (p92_49 s1) (Wp_ck (by rw [k123 s1]) ?_))))
    rw [iv_add, il4, il1, iv_mul, iv_add, iv_add, iv_add, k123 s1]
    refine Wp_ck (inb_iv (by omega) (by omega) (by omega)) (Wp_bn (p92_11 s1) (Wp_ck (by rw [k95 s1]) ?_))
    rw [k95 s1]
    refine Wp_ck (inb_iv (by omega) (by omega) (by omega)) (Wp_ck (inb_iv (by omega) (by omega) (by omega)) (Wp_ck (inb_iv (by omega) (by omega) (by omega)) (Wp_lt ?_)))
    rw [ix_iv (by omega) (by omega), ix_iv (by omega) (by omega), ix_iv (by omega) (by omega), row1 _ (by omega), chanceAt (N := N) hs1 hq (by omega), chanceAt (N := N) hs1 hq (by omega), iv_mul, iv_add, show ((m : Int) + (k : Int)).toNat = m + k from by omega]
    have e : oth C 1 q k = ch C q k := by unfold oth; rw [if_neg (by omega)]
    refine kn _ f1.w ?_
    rw [e]
    exact row1.put
  obtain ⟨fu, efu⟩ : ∃ g, N = g + 1 + 1 + 1 + 1 + 1 := ⟨N - 5, by omega⟩
  have go : Wp (Mo_laysChances_b54 N K23 (fu + 1 + 1 + 1 + 1 + 1) 92 (iv q) (iv 1) (iv m) (iv ((0 : Nat) : Int)) h) Q := by
    refine step _ 0 r h (by omega) ⟨FrV.rf, fun _ => rfl⟩ row (fun h1 f1 r1 => ?_)
    refine step _ 1 _ h1 (by omega) f1 r1 (fun h2 f2 r2 => ?_)
    refine step _ 2 _ h2 (by omega) f2 r2 (fun h3 f3 r3 => ?_)
    refine step _ 3 _ h3 (by omega) f3 r3 (fun h4 f4 r4 => ?_)
    rw [Mo_laysChances_b54]
    refine Wp_ifp (by decide) ?_
    unfold Mo_laysChances_b104
    rw [il1, iv_add]
    exact kk h4 f4 r4
  rw [← efu] at go
  exact go
theorem laysCM {N : Nat} {H C : Nat → Int} {h : PH} {both q : Int} (hN0 : 100 ≤ N) (s : Shp h) (hs : HsM H C h) (hb : both = 0 ∨ both = 1) (hq : 0 ≤ q ∧ q < 24) : Wp (Mo_laysChances N 92 (iv q) (iv both) h) (fun _ h2 => FrC h h2 ∧ RowG 123 (gwt C both q) h2) := by
  have fin1 : ∀ h1, FrC h h1 → RowG 123 (fun _ => 0) h1 → Wp (Mo_laysChances_b23 N N 92 (iv q) (iv 1) (iv 0) h1) (fun _ h2 => FrC h h2 ∧ RowG 123 (gwt C 1 q) h2) := by
    have step : ∀ (fu m : Nat) (r : Nat → Int) (h1 : PH) (Q : Unit → PH → Prop), m ≤ 3 → FrC h h1 → RowG 123 r h1 → (∀ h2, FrC h h2 → RowG 123 (addM C 1 q m r) h2 → Wp (Mo_laysChances_b23 N fu 92 (iv q) (iv 1) (iv ((m : Int) + 1)) h2) Q) → Wp (Mo_laysChances_b23 N (fu + 1) 92 (iv q) (iv 1) (iv m) h1) Q := by
      intro fu m r h1 Q hm f1 row kn
      rw [Mo_laysChances_b23]
      refine Wp_ifn (by rw [il4, iv_le (by omega) (by omega) (by omega) (by omega)]; omega) (Wp_ifn (by decide) ?_)
      unfold Mo_laysChances_b51
      rw [il0]
      exact lays54 hN0 (f1.1.shp s) (f1.1.hs hs) row hq hm (fun h2 f2 r2 => kn h2 (f1.tr f2) r2)
    intro h1 f1 r1
    obtain ⟨fu, efu⟩ : ∃ g, N = g + 1 + 1 + 1 + 1 + 1 := ⟨N - 5, by omega⟩
    have go : Wp (Mo_laysChances_b23 N (fu + 1 + 1 + 1 + 1 + 1) 92 (iv q) (iv 1) (iv ((0 : Nat) : Int)) h1) (fun _ h2 => FrC h h2 ∧ RowG 123 (gwt C 1 q) h2) := by
      refine step _ 0 _ h1 _ (by omega) f1 r1 (fun h2 f2 r2 => ?_)
      refine step _ 1 _ h2 _ (by omega) f2 r2 (fun h3 f3 r3 => ?_)
      refine step _ 2 _ h3 _ (by omega) f3 r3 (fun h4 f4 r4 => ?_)
      refine step _ 3 _ h4 _ (by omega) f4 r4 (fun h5 f5 r5 => ?_)
      rw [Mo_laysChances_b23]
      exact Wp_ifp (by decide) (Wp_ret ⟨f5, r5⟩)
    rw [← efu] at go
    exact go
  have fin0 : ∀ h1, FrC h h1 → RowG 123 (fun _ => 0) h1 → Wp (Mo_laysChances_b23 N N 92 (iv q) (iv 0) (iv 0) h1) (fun _ h2 => FrC h h2 ∧ RowG 123 (gwt C 0 q) h2) := by
    have step : ∀ (fu m : Nat) (h1 : PH) (Q : Unit → PH → Prop), m ≤ 3 → FrC h h1 → RowG 123 (fun j => if j < m then 10 * ch C q j else 0) h1 → (∀ h2, FrC h h2 → RowG 123 (fun j => if j < m + 1 then 10 * ch C q j else 0) h2 → Wp (Mo_laysChances_b23 N fu 92 (iv q) (iv 0) (iv ((m : Int) + 1)) h2) Q) → Wp (Mo_laysChances_b23 N (fu + 1) 92 (iv q) (iv 0) (iv m) h1) Q := by
      intro fu m h1 Q hm f1 row kn
      have s1 := f1.1.shp s
      have hs1 := f1.1.hs hs
      rw [Mo_laysChances_b23]
      refine Wp_ifn (by rw [il4, iv_le (by omega) (by omega) (by omega) (by omega)]; omega) (Wp_ifp (by decide) (Wp_ck (by rw [k92 s1]) (Wp_bn (p92_11 s1) (Wp_ck (by rw [k95 s1]) ?_))))
      rw [il4, iv_mul, iv_add, k95 s1]
      refine Wp_ck (inb_iv (by omega) (by omega) (by omega)) (Wp_bn (p92_49 s1) (Wp_ck (by rw [k123 s1]) ?_))
      rw [k123 s1]
      refine Wp_ck (inb_iv (by omega) (by omega) (by omega)) (Wp_lt ?_)
      rw [ix_iv (by omega) (by omega), ix_iv (by omega) (by omega), Int.toNat_natCast, chanceAt (N := N) hs1 hq (by omega), il10, iv_mul]
      obtain ⟨gu, egu⟩ : ∃ g, N = g + 1 := ⟨N - 1, by omega⟩
      have go : Wp (Mo_laysChances_b54 N (Mo_laysChances_b23 N fu) (gu + 1) 92 (iv q) (iv 0) (iv m) (iv 0) (wI h1 123 m (iv (10 * ch C q m)))) Q := by
        rw [Mo_laysChances_b54]
        refine Wp_ifn (by decide) (Wp_ifp (by decide) ?_)
        unfold Mo_laysChances_b104
        rw [il1, iv_add]
        refine kn _ f1.w ?_
        intro j hj
        rw [hI_wI]
        by_cases c : j = m
        · rw [if_pos ⟨rfl, c⟩, c]
          show iv (10 * ch C q m) = iv (if m < m + 1 then 10 * ch C q m else 0)
          rw [if_pos (by omega)]
        · rw [if_neg (fun e => c e.2), row j hj]
          show iv (if j < m then 10 * ch C q j else 0) = iv (if j < m + 1 then 10 * ch C q j else 0)
          by_cases c2 : j < m
          · rw [if_pos c2, if_pos (by omega)]
          · rw [if_neg c2, if_neg (by omega)]
      rw [← egu] at go
      unfold Mo_laysChances_b51
      rw [il0]
      exact go
    intro h1 f1 r1
    obtain ⟨fu, efu⟩ : ∃ g, N = g + 1 + 1 + 1 + 1 + 1 := ⟨N - 5, by omega⟩
    have go : Wp (Mo_laysChances_b23 N (fu + 1 + 1 + 1 + 1 + 1) 92 (iv q) (iv 0) (iv ((0 : Nat) : Int)) h1) (fun _ h2 => FrC h h2 ∧ RowG 123 (gwt C 0 q) h2) := by
      refine step _ 0 h1 _ (by omega) f1 (fun j hj => by rw [r1 j hj]; rfl) (fun h2 f2 r2 => ?_)
      refine step _ 1 h2 _ (by omega) f2 r2 (fun h3 f3 r3 => ?_)
      refine step _ 2 h3 _ (by omega) f3 r3 (fun h4 f4 r4 => ?_)
      refine step _ 3 h4 _ (by omega) f4 r4 (fun h5 f5 r5 => ?_)
      rw [Mo_laysChances_b23]
      refine Wp_ifp (by decide) (Wp_ret ⟨f5, ?_⟩)
      intro j hj
      rw [gwt_0]
      exact r5 j hj
    rw [← efu] at go
    exact go
  have key : ∀ (m k : Nat) (h1 : PH), k + m = 7 → FrC h h1 → (∀ j, j < k → hI h1 123 j = iv 0) → ∀ fuel, m < fuel → Wp (Mo_laysChances_b2 N fuel 92 (iv q) (iv both) (iv k) h1) (fun _ h2 => FrC h h2 ∧ RowG 123 (gwt C both q) h2) := by
    intro m
    induction m with
    | zero =>
      intro k h1 e f1 d fuel hf
      obtain ⟨fu, rfl⟩ : ∃ fu, fuel = fu + 1 := ⟨fuel - 1, by omega⟩
      rw [Mo_laysChances_b2]
      refine Wp_ifp (by rw [il7, iv_le (by omega) (by omega) (by omega) (by omega)]; omega) ?_
      rw [il0]
      rcases hb with rfl | rfl
      · exact fin0 h1 f1 (fun j hj => d j (by omega))
      · exact fin1 h1 f1 (fun j hj => d j (by omega))
    | succ m ih =>
      intro k h1 e f1 d fuel hf
      obtain ⟨fu, rfl⟩ : ∃ fu, fuel = fu + 1 := ⟨fuel - 1, by omega⟩
      have s1 := f1.1.shp s
      rw [Mo_laysChances_b2]
      refine Wp_ifn (by rw [il7, iv_le (by omega) (by omega) (by omega) (by omega)]; omega) (Wp_ck (by rw [k92 s1]) (Wp_bn (p92_49 s1) (Wp_ck (by rw [k123 s1]) ?_)))
      rw [k123 s1]
      refine Wp_ck (inb_iv (by omega) (by omega) (by omega)) (Wp_lt ?_)
      rw [il0, il1, iv_add, ix_nat (by omega)]
      have r := ih (k + 1) (wI h1 123 k (iv 0)) (by omega) f1.w (fun j hj => by
        rw [hI_wI]
        by_cases cj : j = k
        · rw [if_pos ⟨rfl, cj⟩]
        · rw [if_neg (fun e => cj e.2)]
          exact d j (by omega)) fu (by omega)
      rw [show ((k + 1 : Nat) : Int) = (k : Int) + 1 from by omega] at r
      exact r
  unfold Mo_laysChances
  rw [il0]
  exact key 7 0 h (by omega) ⟨FrV.rf, fun _ => rfl⟩ (fun j hj => by omega) N (by omega)
def RowF (f : Int → Int) (q most : Int) (h : PH) : Prop := ∀ t : Int, 0 ≤ t → t ≤ most → hI h 122 (241 * q + t).toNat = iv (f t)
def FrD (h h2 : PH) : Prop := FrV h h2 ∧ (∀ i, hI h2 122 i = hI h 122 i) ∧ (∀ i, hI h2 123 i = hI h 123 i)
theorem FrD.rf {h : PH} : FrD h h := ⟨FrV.rf, fun _ => rfl, fun _ => rfl⟩
theorem FrD.tr {h h1 h2 : PH} (a : FrD h h1) (b : FrD h1 h2) : FrD h h2 := ⟨a.1.tr b.1, fun i => (b.2.1 i).trans (a.2.1 i), fun i => (b.2.2 i).trans (a.2.2 i)⟩
theorem GvF.d {h h2 : PH} (g : GvF h h2) : FrD h h2 := ⟨g.v, fun i => g.1.I (by omega) i, fun i => g.1.I (by omega) i⟩
theorem fencedM {N : Nat} {H C : Nat → Int} {h : PH} {q t here most : Int} {f : Int → Int} (hN0 : 100 ≤ N) (ho : HOK H C) (s : Shp h) (hs : HsM H C h) (row : RowF f (q + 1) most h) (b : BT f (-41000000) 43000000) (hq : 0 ≤ q ∧ q < H 0) (ht : 0 ≤ t ∧ t ≤ most) (hmo : most ≤ 240) (hh : 0 ≤ here ∧ here ≤ 6) : Wp (Mo_fencedBy N 92 (iv q) (iv here) (iv t) h) (fun v h2 => v = iv (fG H f q here t) ∧ FrD h h2) := by
  have h01 := ho.1
  have fb : ∀ how : Int, 0 ≤ how ∧ how ≤ 4 → -42000000 ≤ fv H f q here t how ∧ fv H f q here t how ≤ 45000000 := by
    intro how hw
    have g := g6_b ho (q := q) hw hh ht.1
    have x := b (gt H q here how t 0) (by omega) (by omega)
    unfold fv
    omega
  have step : ∀ (fu : Nat) (k x4 : Int) (h1 : PH) (Q : Int32 → PH → Prop), 0 ≤ k → k ≤ 3 → (k ≠ 0 → -42000000 ≤ x4 ∧ x4 ≤ 45000000) → FrD h h1 → (∀ h2, FrD h h2 → Wp (Mo_fencedBy_b25 N fu 92 (iv q) (iv here) (iv t) (iv (if k = 0 then fv H f q here t k else max x4 (fv H f q here t k))) (iv (k + 1)) h2) Q) → Wp (Mo_fencedBy_b25 N (fu + 1) 92 (iv q) (iv here) (iv t) (iv x4) (iv k) h1) Q := by
    intro fu k x4 h1 Q k0 k3 hx f1 kn
    have s1 := f1.1.shp s
    have hs1 := f1.1.hs hs
    have g := g6_b ho (q := q) (here := here) (how := k) (by omega) hh ht.1
    have fk := fb k (by omega)
    have ef : 1000 * gv H q here k t 0 + f (gt H q here k t 0) = fv H f q here t k := rfl
    rw [Mo_fencedBy_b25]
    refine Wp_ifn (by rw [il4, iv_le (by omega) (by omega) (by omega) (by omega)]; omega) (Wp_ck (by rw [k92 s1]) ?_)
    rw [il0]
    refine Wp_bd2 (givesM hN0 ho (by omega) (by omega) (by omega) (by omega) (by omega) s1 hs1) ?_
    rintro v h2 ⟨rfl, gf, g1, g2, g3⟩
    have f2 := f1.tr gf.d
    have s2 := f2.1.shp s
    refine Wp_ck (by rw [k92 s2]) (Wp_bn (p92_48 s2) (Wp_ck (by rw [k122 s2]) ?_))
    rw [g1, il1, iv_add, show (241 : Int32) = iv 241 from il241, iv_mul, iv_add, k122 s2]
    refine Wp_ck (inb_iv (by omega) (by omega) (by omega)) ?_
    rw [ix_iv (by omega) (by omega), f2.2.1, row _ (by omega) (by omega), il1000, iv_mul, iv_add, ef]
    unfold Mo_fencedBy_b77 Mo_fencedBy_b84
    rw [il1, iv_add]
    have r := kn h2 f2
    refine Wp_if (fun c => ?_) (fun c => ?_)
    · rw [iv_eq (by omega) (by omega) (by omega) (by omega)] at c
      rw [if_pos c] at r
      exact r
    · rw [iv_eq (by omega) (by omega) (by omega) (by omega)] at c
      have hx2 := hx c
      rw [if_neg c] at r
      refine Wp_if (fun c2 => ?_) (fun c2 => ?_)
      · rw [iv_le (by omega) (by omega) (by omega) (by omega)] at c2
        rw [show max x4 (fv H f q here t k) = x4 from by omega] at r
        exact r
      · rw [iv_le (by omega) (by omega) (by omega) (by omega)] at c2
        rw [show max x4 (fv H f q here t k) = fv H f q here t k from by omega] at r
        exact r
  have f0 := fb 0 (by omega)
  have f1 := fb 1 (by omega)
  have f2 := fb 2 (by omega)
  have f3 := fb 3 (by omega)
  unfold Mo_fencedBy
  refine Wp_if (fun c => ?_) (fun c => ?_)
  · rw [il0, iv_eq (by omega) (by omega) (by omega) (by omega)] at c
    subst c
    refine Wp_ck (by rw [k92 s]) (Wp_bn (p92_48 s) (Wp_ck (by rw [k122 s]) ?_))
    rw [il1, iv_add, show (241 : Int32) = iv 241 from il241, iv_mul, iv_add, k122 s]
    refine Wp_ck (inb_iv (by omega) (by omega) (by omega)) (Wp_ret ⟨?_, FrD.rf⟩)
    rw [ix_iv (by omega) (by omega), row _ ht.1 ht.2, fG_none]
  · obtain ⟨fu, efu⟩ : ∃ g, N = g + 1 + 1 + 1 + 1 + 1 := ⟨N - 5, by omega⟩
    have go : Wp (Mo_fencedBy_b25 N (fu + 1 + 1 + 1 + 1 + 1) 92 (iv q) (iv here) (iv t) (iv 0) (iv 0) h) (fun v h2 => v = iv (fG H f q here t) ∧ FrD h h2) := by
      refine step _ 0 _ h _ (by omega) (by omega) (by omega) FrD.rf (fun h1 x1 => ?_)
      rw [if_pos rfl]
      refine step _ (0 + 1) _ h1 _ (by omega) (by omega) (fun _ => by omega) x1 (fun h2 x2 => ?_)
      rw [if_neg (by omega)]
      refine step _ (0 + 1 + 1) _ h2 _ (by omega) (by omega) (fun _ => by rw [show (0 : Int) + 1 = 1 from rfl]; omega) x2 (fun h3 x3 => ?_)
      rw [if_neg (by omega)]
      refine step _ (0 + 1 + 1 + 1) _ h3 _ (by omega) (by omega) (fun _ => by rw [show (0 : Int) + 1 = 1 from rfl, show (1 : Int) + 1 = 2 from rfl]; omega) x3 (fun h4 x4 => ?_)
      rw [if_neg (by omega)]
      rw [Mo_fencedBy_b25]
      exact Wp_ifp (by decide) (Wp_ret ⟨rfl, x4⟩)
    rw [← efu] at go
    rw [il0]
    exact go
def AboveF2 (H : Nat → Int) (f : Int → Int → Int) (q most : Int) (h : PH) : Prop := ∀ q2 : Int, q < q2 → q2 ≤ H 0 → RowF (f q2) q2 most h
def DoneF2 (f : Int → Int → Int) (q t : Int) (h : PH) : Prop := ∀ t2 : Int, 0 ≤ t2 → t2 < t → hI h 122 (241 * q + t2).toNat = iv (f q t2)
theorem cellFe {N : Nat} {H C : Nat → Int} {h : PH} {both q t most : Int} {x2 : Int32} {K7 : Nat → Int32 → Int32 → Int32 → PH → Option (Int32 × PH)} {K36 : Nat → Int32 → Int32 → Int32 → Int32 → PH → Option (Int32 × PH)} {Q : Int32 → PH → Prop} (hN0 : 100 ≤ N) (ho : HOK H C) (s : Shp h) (hs : HsM H C h) (hb : both = 0 ∨ both = 1) (ab : AboveF2 H (Tq H C both) q most h) (rg : q < H 0 → RowG 123 (gwt C both q) h) (hq : 0 ≤ q ∧ q ≤ H 0) (ht : 0 ≤ t ∧ t ≤ most) (hmo : most ≤ 240) (kk : ∀ h2, FrV h h2 → (∀ i, hI h2 122 i = if i = (241 * q + t).toNat then iv (Tq H C both q t) else hI h 122 i) → (∀ i, hI h2 123 i = hI h 123 i) → Wp (K36 92 (iv most) x2 (iv q) (iv (t + 1)) h2) Q) : Wp (Mo_fenceOf_b48 N K7 K36 N 92 (iv most) x2 (iv q) (iv t) (jv 0) (iv 0) h) Q := by
  have h01 := ho.1
  have fin : ∀ (x : Int) (h1 : PH), FrD h h1 → x = Tq H C both q t → Wp (Mo_fenceOf_b151 N K7 K36 (some 122) (iv (241 * q + t)) (iv x) 92 (iv most) x2 (iv q) (iv t) h1) Q := by
    rintro x h1 f1 rfl
    have s1 := f1.1.shp s
    unfold Mo_fenceOf_b151
    refine Wp_bn rfl (Wp_ck (by rw [k122 s1]) (Wp_ck (by rw [k122 s1]; exact inb_iv (by omega) (by omega) (by omega)) (Wp_lt ?_)))
    rw [il1, iv_add, ix_iv (by omega) (by omega)]
    refine kk _ f1.1.f ?_ ?_
    · intro i
      rw [hI_wI, f1.2.1]
      simp only [true_and]
    · intro i
      rw [hI_wI, if_neg (by omega), f1.2.2]
  have lay : ∀ (sum : Int) (h1 : PH), FrD h h1 → (q = H 0 ∨ (q < H 0 ∧ sum = fSum H C both (Tq H C both (q + 1)) q t)) → Wp (Mo_fenceOf_b105 N K7 K36 92 (iv most) x2 (iv q) (iv t) (jv sum) h1) Q := by
    intro sum h1 f1 hc
    have s1 := f1.1.shp s
    have hs1 := f1.1.hs hs
    unfold Mo_fenceOf_b105
    refine Wp_ck (by rw [k92 s1]) (Wp_bn (p92_10 s1) (Wp_ck (by rw [k94 s1]) (Wp_ck (by rw [k94 s1]; decide) ?_)))
    rw [ix_l 0 (by omega), ix_l 7 (by omega), hs1.1 0 (by omega), hs1.1 7 (by omega), p92_48 s1, show (241 : Int32) = iv 241 from il241, iv_mul, iv_add]
    refine Wp_if (fun c => ?_) (fun c => ?_)
    · rw [iv_eq (by omega) (by omega) (by omega) (by omega)] at c
      refine Wp_ck (by rw [k94 s1]; decide) ?_
      rw [il1000, iv_neg, iv_mul, iv_mul]
      refine fin _ h1 f1 ?_
      rw [Tq_end c]
      unfold off0
      rw [Int.sub_self, Int.mul_zero, Int.zero_add, Int.mul_assoc]
    · rw [iv_eq (by omega) (by omega) (by omega) (by omega)] at c
      rcases hc with hc | ⟨hc, rfl⟩
      · omega
      · have b := Tq_b ho hb (q := q + 1) (by omega)
        have sb := fSum_b ho b hb (q := q) (t := t) (by omega) (by omega)
        refine Wp_ck (by decide) ?_
        rw [jl100, jv_div (by omega) (by omega) (by omega) (by omega), jv_narrow]
        exact fin _ h1 f1 (Tq_lt hc).symm
  by_cases cq : q = H 0
  · obtain ⟨fu, efu⟩ : ∃ g, N = g + 1 := ⟨N - 1, by omega⟩
    have go : Wp (Mo_fenceOf_b48 N K7 K36 (fu + 1) 92 (iv most) x2 (iv q) (iv t) (jv 0) (iv 0) h) Q := by
      rw [Mo_fenceOf_b48]
      refine Wp_ifn (by decide) (Wp_ck (by rw [k92 s]) (Wp_bn (p92_10 s) (Wp_ck (by rw [k94 s]) (Wp_ck (by rw [k94 s]; decide) ?_))))
      rw [ix_l 0 (by omega), hs.1 0 (by omega)]
      exact Wp_ifp (by rw [iv_le (by omega) (by omega) (by omega) (by omega)]; omega) (lay 0 h FrD.rf (Or.inl cq))
    rw [← efu] at go
    exact go
  · have row := ab (q + 1) (by omega) (by omega)
    have rg1 := rg (by omega)
    have b := Tq_b ho hb (q := q + 1) (by omega)
    obtain ⟨⟨w0, w1, w2, w3, w4, w5, w6⟩, ws⟩ := gwt_sum ho hb (q := q) (by omega)
    have step : ∀ (fu k : Nat) (sum : Int) (h1 : PH), k ≤ 6 → 0 ≤ gwt C both q k → gwt C both q k ≤ 100 → FrD h h1 → (∀ h2, FrD h h2 → Wp (Mo_fenceOf_b48 N K7 K36 fu 92 (iv most) x2 (iv q) (iv t) (jv (sum + gwt C both q k * fG H (Tq H C both (q + 1)) q k t)) (iv ((k : Int) + 1)) h2) Q) → Wp (Mo_fenceOf_b48 N K7 K36 (fu + 1) 92 (iv most) x2 (iv q) (iv t) (jv sum) (iv k) h1) Q := by
      intro fu k sum h1 hk g0 g1 f1 kn
      have s1 := f1.1.shp s
      have hs1 := f1.1.hs hs
      have gb := fG_b ho b (q := q) (here := k) (t := t) (by omega) (by omega)
      rw [Mo_fenceOf_b48]
      refine Wp_ifn (by rw [il7, iv_le (by omega) (by omega) (by omega) (by omega)]; omega) (Wp_ck (by rw [k92 s1]) (Wp_bn (p92_10 s1) (Wp_ck (by rw [k94 s1]) (Wp_ck (by rw [k94 s1]; decide) ?_))))
      rw [ix_l 0 (by omega), hs1.1 0 (by omega)]
      refine Wp_ifn (by rw [iv_le (by omega) (by omega) (by omega) (by omega)]; omega) (Wp_bn (p92_49 s1) (Wp_ck (by rw [k123 s1]) ?_))
      rw [k123 s1]
      refine Wp_ck (inb_iv (by omega) (by omega) (by omega)) ?_
      rw [ix_nat (by omega), f1.2.2, rg1 k (by omega)]
      unfold Mo_fenceOf_b99
      rw [il1, iv_add]
      refine Wp_if (fun c => ?_) (fun c => ?_)
      · rw [il0, iv_le (by omega) (by omega) (by omega) (by omega)] at c
        have r := kn h1 f1
        rw [show gwt C both q k = 0 from by omega, Int.zero_mul, Int.add_zero] at r
        exact r
      · rw [il0, iv_le (by omega) (by omega) (by omega) (by omega)] at c
        refine Wp_ck (inb_iv (by omega) (by omega) (by omega)) ?_
        refine Wp_bd2 (fencedM hN0 ho s1 hs1 (fun t2 b0 b1 => (f1.2.1 _).trans (row t2 b0 b1)) b ⟨hq.1, by omega⟩ ht hmo (by omega)) ?_
        rintro v h2 ⟨rfl, f2⟩
        rw [iv_wide (by omega) (by omega), iv_wide (by omega) (by omega), jv_mul, jv_add]
        exact kn h2 (f1.tr f2)
    obtain ⟨fu, efu⟩ : ∃ g, N = g + 1 + 1 + 1 + 1 + 1 + 1 + 1 + 1 := ⟨N - 8, by omega⟩
    have go : Wp (Mo_fenceOf_b48 N K7 K36 (fu + 1 + 1 + 1 + 1 + 1 + 1 + 1 + 1) 92 (iv most) x2 (iv q) (iv t) (jv 0) (iv ((0 : Nat) : Int)) h) Q := by
      refine step _ 0 _ h (by omega) w0 (by omega) FrD.rf (fun h1 f1 => ?_)
      refine step _ 1 _ h1 (by omega) w1 (by omega) f1 (fun h2 f2 => ?_)
      refine step _ 2 _ h2 (by omega) w2 (by omega) f2 (fun h3 f3 => ?_)
      refine step _ 3 _ h3 (by omega) w3 (by omega) f3 (fun h4 f4 => ?_)
      refine step _ 4 _ h4 (by omega) w4 (by omega) f4 (fun h5 f5 => ?_)
      refine step _ 5 _ h5 (by omega) w5 (by omega) f5 (fun h6 f6 => ?_)
      refine step _ 6 _ h6 (by omega) w6 (by omega) f6 (fun h7 f7 => ?_)
      rw [Mo_fenceOf_b48]
      refine Wp_ifp (by decide) (lay _ h7 f7 (Or.inr ⟨by omega, ?_⟩))
      unfold fSum
      rw [Int.zero_add]
      rfl
    rw [← efu] at go
    exact go
theorem t_fence {N : Nat} {H C : Nat → Int} {both q most : Int} {x2 : Int32} {K7 : Nat → Int32 → Int32 → Int32 → PH → Option (Int32 × PH)} {Q : Int32 → PH → Prop} (hN : 100 ≤ N) (ho : HOK H C) (hb : both = 0 ∨ both = 1) (hq : 0 ≤ q ∧ q ≤ H 0) (hmo : 0 ≤ most ∧ most ≤ 240) {h0 : PH} (kk : ∀ h2, FrV h0 h2 → AboveF2 H (Tq H C both) (q - 1) most h2 → Wp (K7 92 (iv most) x2 (iv (q - 1)) h2) Q) : ∀ (m : Nat) (t : Int) (h : PH), t + m = most + 1 → 0 ≤ t → Shp h → HsM H C h → FrV h0 h → AboveF2 H (Tq H C both) q most h → (q < H 0 → RowG 123 (gwt C both q) h) → DoneF2 (Tq H C both) q t h → ∀ fuel, m < fuel → Wp (Mo_fenceOf_b36 N K7 fuel 92 (iv most) x2 (iv q) (iv t) h) Q := by
  intro m
  have h01 := ho.1
  induction m with
  | zero =>
    intro t h e ht s hs fr ab rg d fuel hf
    obtain ⟨fu, rfl⟩ : ∃ fu, fuel = fu + 1 := ⟨fuel - 1, by omega⟩
    rw [Mo_fenceOf_b36]
    dsimp only
    rw [il1, iv_neg, iv_add, show q + -1 = q - 1 from by omega]
    refine Wp_ifp (by rw [iv_lt (by omega) (by omega) (by omega) (by omega)]; omega) ?_
    refine kk h fr (fun q2 b0 b1 => ?_)
    by_cases c : q2 = q
    · rw [c]; exact fun t2 b2 b3 => d t2 b2 (by omega)
    · exact ab q2 (by omega) b1
  | succ m ih =>
    intro t h e ht s hs fr ab rg d fuel hf
    obtain ⟨fu, rfl⟩ : ∃ fu, fuel = fu + 1 := ⟨fuel - 1, by omega⟩
    rw [Mo_fenceOf_b36]
    refine Wp_ifn (by rw [iv_lt (by omega) (by omega) (by omega) (by omega)]; omega) ?_
    rw [il0, jl0]
    refine cellFe hN ho s hs hb ab rg hq ⟨ht, by omega⟩ hmo.2 ?_
    intro h2 g r2 r3
    refine ih (t + 1) h2 (by omega) (by omega) (g.shp s) (g.hs hs) (fr.tr g) ?_ (fun c j hj => (r3 j).trans (rg c j hj)) ?_ fu (by omega)
    · intro q2 b0 b1 t2 b2 b3
      rw [r2, if_neg (by omega)]
      exact ab q2 b0 b1 t2 b2 b3
    · intro t2 b2 b3
      rw [r2]
      by_cases c : t2 = t
      · rw [if_pos (by omega), c]
      · rw [if_neg (by omega)]
        exact d t2 b2 (by omega)
theorem fenceOfM {N : Nat} {H C n : Nat → Int} {both most : Int} {h : PH} (hN : 300 ≤ N) (ho : HOK H C) (nk : NOK H n) (s : Shp h) (hs : HsM H C h) (nt : NtM n h) (hb : both = 0 ∨ both = 1) (hmo : 0 ≤ most ∧ most ≤ 240) : Wp (Mo_fenceOf N 92 (iv most) (iv both) h) (fun v h2 => v = iv (Tq H C both (n 0) most) ∧ FrV h h2) := by
  have h01 := ho.1
  have n01 := nk.1
  have key : ∀ (m : Nat) (q : Int) (h1 : PH), q + 1 = n 0 + m → q ≤ H 0 → FrV h h1 → AboveF2 H (Tq H C both) q most h1 → ∀ fuel, m < fuel → Wp (Mo_fenceOf_b7 N fuel 92 (iv most) (iv both) (iv q) h1) (fun v h2 => v = iv (Tq H C both (n 0) most) ∧ FrV h h2) := by
    intro m
    induction m with
    | zero =>
      intro q h1 e hq fr ab fuel hf
      obtain ⟨fu, rfl⟩ : ∃ fu, fuel = fu + 1 := ⟨fuel - 1, by omega⟩
      have s1 := fr.shp s
      have nt1 := fr.nt nt
      rw [Mo_fenceOf_b7]
      simp (disch := decide) only [bn_s, k92 s1, p92_35 s1, p92_48 s1, p92_10 s1, k116 s1, k94 s1, k122 s1, ck_T, inb_l, ix_l, eq_self]
      rw [nt1 0 (by omega), show (241 : Int32) = iv 241 from il241, iv_mul, iv_add]
      refine Wp_ifp (by rw [iv_lt (by omega) (by omega) (by omega) (by omega)]; omega) (Wp_ck (inb_iv (by omega) (by omega) (by omega)) (Wp_ret ⟨?_, fr⟩))
      rw [ix_iv (by omega) (by omega), ab (n 0) (by omega) (by omega) most hmo.1 (Int.le_refl _)]
    | succ m ih =>
      intro q h1 e hq fr ab fuel hf
      obtain ⟨fu, rfl⟩ : ∃ fu, fuel = fu + 1 := ⟨fuel - 1, by omega⟩
      have s1 := fr.shp s
      have hs1 := fr.hs hs
      have nt1 := fr.nt nt
      rw [Mo_fenceOf_b7]
      simp (disch := decide) only [bn_s, k92 s1, p92_35 s1, p92_48 s1, p92_10 s1, k116 s1, k94 s1, k122 s1, ck_T, inb_l, ix_l, eq_self]
      rw [nt1 0 (by omega), hs1.1 0 (by omega)]
      refine Wp_ifn (by rw [iv_lt (by omega) (by omega) (by omega) (by omega)]; omega) ?_
      unfold Mo_fenceOf_b33
      rw [il0]
      refine Wp_if (fun c => ?_) (fun c => ?_)
      · rw [iv_le (by omega) (by omega) (by omega) (by omega)] at c
        refine t_fence (by omega) ho hb ⟨by omega, hq⟩ hmo (h0 := h1) ?_ (most + 1).toNat 0 h1 (by omega) (by omega) s1 hs1 FrV.rf ab (fun z => by omega) (fun t2 b0 b1 => by omega) N (by omega)
        intro h2 g ab2
        exact ih (q - 1) h2 (by omega) (by omega) (fr.tr g) ab2 fu (by omega)
      · rw [iv_le (by omega) (by omega) (by omega) (by omega)] at c
        refine Wp_bd2 (laysCM (by omega) s1 hs1 hb (by omega)) ?_
        rintro - h2 ⟨f2, rg⟩
        refine t_fence (by omega) ho hb ⟨by omega, hq⟩ hmo (h0 := h1) ?_ (most + 1).toNat 0 h2 (by omega) (by omega) (f2.1.shp s1) (f2.1.hs hs1) f2.1 (fun q2 b0 b1 t2 b2 b3 => (f2.2 _).trans (ab q2 b0 b1 t2 b2 b3)) (fun _ => rg) (fun t2 b0 b1 => by omega) N (by omega)
        intro h3 g ab2
        exact ih (q - 1) h3 (by omega) (by omega) (fr.tr g) ab2 fu (by omega)
  unfold Mo_fenceOf
  refine Wp_ck (by rw [k92 s]) (Wp_bn (p92_10 s) (Wp_ck (by rw [k94 s]) (Wp_ck (by rw [k94 s]; decide) ?_)))
  rw [ix_l 0 (by omega), hs.1 0 (by omega)]
  exact key (H 0 + 1 - n 0).toNat (H 0) h (by omega) (Int.le_refl _) FrV.rf (fun q2 b0 b1 => by omega) N (by omega)
