/-! THE PURE PROOFS, 32: an evening, to the end. -/
theorem laysLinesM {N x y : Nat} {h : PH} (hN : 100 ≤ N) (s : Shp h) (hx : x ≤ 5) (hy : y ≤ 5) (hxy : x ≠ y) : Wp (Mo_laysLines N 92 (iv x) (iv y) h) (fun _ h2 => FrS (fun b => b = 113 ∨ b = 114 ∨ b = 115) h h2 ∧ hZ h2 = hZ h ∧ hJ h2 = hJ h ∧ (∀ j, hI h2 113 j = if j = y then hI h 113 x else hI h 113 j) ∧ (∀ j, hI h2 114 j = if 60 * y ≤ j ∧ j < 60 * y + 60 then hI h 114 (60 * x + (j - 60 * y)) else hI h 114 j) ∧ (∀ j, hI h2 115 j = if 60 * y ≤ j ∧ j < 60 * y + 60 then hI h 115 (60 * x + (j - 60 * y)) else hI h 115 j)) := by
  have key : ∀ (m k : Nat) (h1 : PH), k + m = 60 → FrS (fun b => b = 113 ∨ b = 114 ∨ b = 115) h h1 → hZ h1 = hZ h → hJ h1 = hJ h → (∀ j, hI h1 113 j = if j = y then hI h 113 x else hI h 113 j) → (∀ j, hI h1 114 j = if 60 * y ≤ j ∧ j < 60 * y + k then hI h 114 (60 * x + (j - 60 * y)) else hI h 114 j) → (∀ j, hI h1 115 j = if 60 * y ≤ j ∧ j < 60 * y + k then hI h 115 (60 * x + (j - 60 * y)) else hI h 115 j) → ∀ fuel, m < fuel → Wp (Mo_laysLines_b14 N fuel 92 (iv x) (iv y) (iv k) h1) (fun _ h2 => FrS (fun b => b = 113 ∨ b = 114 ∨ b = 115) h h2 ∧ hZ h2 = hZ h ∧ hJ h2 = hJ h ∧ (∀ j, hI h2 113 j = if j = y then hI h 113 x else hI h 113 j) ∧ (∀ j, hI h2 114 j = if 60 * y ≤ j ∧ j < 60 * y + 60 then hI h 114 (60 * x + (j - 60 * y)) else hI h 114 j) ∧ (∀ j, hI h2 115 j = if 60 * y ≤ j ∧ j < 60 * y + 60 then hI h 115 (60 * x + (j - 60 * y)) else hI h 115 j)) := by
    intro m
    induction m with
    | zero =>
      intro k h1 ek f1 z1 j1 a1 b1 c1 fuel hf
      obtain ⟨fu, rfl⟩ : ∃ fu, fuel = fu + 1 := ⟨fuel - 1, by omega⟩
      rw [Mo_laysLines_b14, show (60 : Int32) = iv 60 from iv_lit _]
      obtain rfl : k = 60 := by omega
      exact Wp_ifp (by decide) (Wp_ret ⟨f1, z1, j1, a1, b1, c1⟩)
    | succ m ih =>
      intro k h1 ek f1 z1 j1 a1 b1 c1 fuel hf
      obtain ⟨fu, rfl⟩ : ∃ fu, fuel = fu + 1 := ⟨fuel - 1, by omega⟩
      have s1 := f1.shp s
      have e1 : (60 : Int) * (x : Int) + (k : Int) = ((60 * x + k : Nat) : Int) := by omega
      have e2 : (60 : Int) * (y : Int) + (k : Int) = ((60 * y + k : Nat) : Int) := by omega
      rw [Mo_laysLines_b14, show (60 : Int32) = iv 60 from iv_lit _]
      refine Wp_ifn (by rw [iv_le (by omega) (by omega) (by omega) (by omega)]; omega) (Wp_ck (by rw [k92 s1]) (Wp_bn (p92_33 s1) (Wp_ck (by rw [k114 s1]) ?_)))
      rw [iv_mul, iv_mul, iv_add, iv_add, e1, e2, ix_nat (by omega), ix_nat (by omega)]
      refine Wp_ck (by rw [k114 s1]; exact inb_iv (by omega) (by omega) (by omega)) (Wp_ck (by rw [k114 s1]; exact inb_iv (by omega) (by omega) (by omega)) (Wp_lt ?_))
      have f2 : FrS (fun b => b = 113 ∨ b = 114 ∨ b = 115) h (wI h1 114 (60 * y + k) (hI h1 114 (60 * x + k))) := f1.aI (by omega)
      have s2 := f2.shp s
      refine Wp_bn (p92_34 s2) (Wp_ck (by rw [k115 s2]) (Wp_ck (by rw [k115 s2]; exact inb_iv (by omega) (by omega) (by omega)) (Wp_ck (by rw [k115 s2]; exact inb_iv (by omega) (by omega) (by omega)) (Wp_lt ?_))))
      have r := ih (k + 1) (wI (wI h1 114 (60 * y + k) (hI h1 114 (60 * x + k))) 115 (60 * y + k) (hI (wI h1 114 (60 * y + k) (hI h1 114 (60 * x + k))) 115 (60 * x + k))) (by omega) (f2.aI (by omega)) z1 j1 (fun j => by rw [hI_wI, if_neg (by omega), hI_wI, if_neg (by omega)]; exact a1 j) (fun j => ?_) (fun j => ?_) fu (by omega)
      · rw [show ((k + 1 : Nat) : Int) = (k : Int) + 1 from by omega] at r
        rw [il1, iv_add]
        exact r
      · rw [hI_wI, if_neg (by omega), hI_wI]
        by_cases e : j = 60 * y + k
        · rw [if_pos ⟨rfl, e⟩, if_pos (by omega), b1, if_neg (by omega), show 60 * x + (j - 60 * y) = 60 * x + k from by omega]
        · rw [if_neg (fun z => e z.2), b1]
          by_cases d : 60 * y ≤ j ∧ j < 60 * y + k
          · rw [if_pos d, if_pos (by omega)]
          · rw [if_neg d, if_neg (by omega)]
      · rw [hI_wI]
        by_cases e : j = 60 * y + k
        · rw [if_pos ⟨rfl, e⟩, if_pos (by omega), hI_wI, if_neg (by omega), c1, if_neg (by omega), show 60 * x + (j - 60 * y) = 60 * x + k from by omega]
        · rw [if_neg (fun z => e z.2), hI_wI, if_neg (by omega), c1]
          by_cases d : 60 * y ≤ j ∧ j < 60 * y + k
          · rw [if_pos d, if_pos (by omega)]
          · rw [if_neg d, if_neg (by omega)]
  unfold Mo_laysLines
  refine Wp_ck (by rw [k92 s]) (Wp_bn (p92_32 s) (Wp_ck (by rw [k113 s]) (Wp_ck (by rw [k113 s]; exact inb_iv (by omega) (by omega) (by omega)) (Wp_ck (by rw [k113 s]; exact inb_iv (by omega) (by omega) (by omega)) (Wp_lt ?_)))))
  rw [ix_nat (by omega), ix_nat (by omega)]
  refine key 60 0 _ (by omega) (FrS.rf.aI (by omega)) rfl rfl (fun j => ?_) (fun j => ?_) (fun j => ?_) N (by omega)
  · rw [hI_wI]
    by_cases e : j = y
    · rw [if_pos ⟨rfl, e⟩, if_pos e]
    · rw [if_neg (fun z => e z.2), if_neg e]
  · rw [if_neg (by omega), hI_wI, if_neg (by omega)]
  · rw [if_neg (by omega), hI_wI, if_neg (by omega)]
/-- the evening that stands, the reference's way: n lines -/
def EvM (n : Nat) (A B : Nat → Int) (h : PH) : Prop := hI h 113 0 = iv n ∧ ∀ i, i < n → hI h 114 i = iv (A i - 16) ∧ (A i ≤ 17 → hI h 115 i = iv (B i))
theorem evenM {N : Nat} {T : Nat → Int} {L : Nat} {h : PH} (hN : 1100 ≤ N) (x : Tx0 T L h) : Wp (Mo_evening N 92 h) (fun v h2 => FrV0 h h2 ∧ hI h2 92 0 = iv 0 ∧ hI h2 92 1 = iv 0 ∧ match evR T L 61 0 (fun _ => 0) (fun _ => 0) 0 with
    | .inl f => v = iv f ∧ 0 < f ∧ f < 1048576 ∧ (∀ a i : Nat, (a = 113 ∧ i = 0) ∨ ((a = 114 ∨ a = 115) ∧ i < 60) → hI h2 a i = hI h a i)
    | .inr (n, A, B) => v = iv 0 ∧ EvM n A B h2 ∧ n ≤ 60) := by
  have key : ∀ (m n : Nat) (A B : Nat → Int) (p : Nat) (h1 : PH), n + m = 61 → FrV0 h h1 → hI h1 92 0 = iv 0 → hI h1 92 1 = iv 0 → (∀ a i : Nat, (a = 113 ∧ i = 0) ∨ ((a = 114 ∨ a = 115) ∧ i < 60) → hI h1 a i = hI h a i) → TxM T L h1 → LexM T L p h1 → p ≤ L → ScM n A B h1 → n ≤ 60 → ∀ fuel, m < fuel → Wp (Mo_evening_b16 N fuel 92 h1) (fun v h2 => FrV0 h h2 ∧ hI h2 92 0 = iv 0 ∧ hI h2 92 1 = iv 0 ∧ match evR T L m n A B p with
    | .inl f => v = iv f ∧ 0 < f ∧ f < 1048576 ∧ (∀ a i : Nat, (a = 113 ∧ i = 0) ∨ ((a = 114 ∨ a = 115) ∧ i < 60) → hI h2 a i = hI h a i)
    | .inr (n, A, B) => v = iv 0 ∧ EvM n A B h2 ∧ n ≤ 60) := by
    intro m
    induction m with
    | zero => intro n A B p h1 e _ _ _ _ _ _ _ _ hn; omega
    | succ m ih =>
      intro n A B p h1 e f1 z0 z1 kp x1 s1 hp c1 hn fuel hf
      obtain ⟨fu, rfl⟩ : ∃ fu, fuel = fu + 1 := ⟨fuel - 1, by omega⟩
      have cb := tCd_b (T := T) (L := L) (p := p)
      have ci := (tCd_iff (T := T) (L := L) (p := p)).1
      rw [Mo_evening_b16]
      refine Wp_ck (by rw [k92 x1.1]) ?_
      rw [s1.2.2.1]
      refine Wp_if (fun k3 => ?_) (fun k3 => ?_)
      · rw [il0, iv_eq (by omega) (by omega) (by omega) (by omega)] at k3
        rw [evR, if_pos (ci.mp k3)]
        refine Wp_bd2 (laysLinesM (x := 5) (y := 0) (by omega) x1.1 (by omega) (by omega) (by omega)) ?_
        rintro - h2 ⟨f2, z2, j2, a2, b2, c2⟩
        refine Wp_ret ⟨f1.tr ⟨f2.up (fun b e => by omega), z2, fun j _ => f2.I (by omega) j, fun j _ => by rw [j2], fun j q _ => ?_, fun j q r => ⟨?_, ?_⟩⟩, ?_, ?_, il0, ⟨?_, fun i hi => ⟨?_, fun z => ?_⟩⟩, hn⟩
        · rw [a2, if_neg q]
        · rw [b2, if_neg (by omega)]
        · rw [c2, if_neg (by omega)]
        · rw [f2.I (by omega), z0]
        · rw [f2.I (by omega), z1]
        · rw [a2, if_pos rfl, c1.1]
        · rw [b2, if_pos (by omega), show 60 * 5 + (i - 60 * 0) = 300 + i from by omega]
          exact (c1.2 i hi).1
        · rw [c2, if_pos (by omega), show 60 * 5 + (i - 60 * 0) = 300 + i from by omega]
          exact (c1.2 i hi).2 z
      · rw [il0, iv_eq (by omega) (by omega) (by omega) (by omega)] at k3
        rw [evR, if_neg (fun z => k3 (ci.mpr z))]
        refine Wp_bd2 (evlineM hN x1 s1 hp c1 hn) ?_
        rintro v h2 ⟨f2', x2, y0, y1, g2, c2⟩
        have f2 := f2'.v0
        generalize eq : evL T L n p = q at g2 c2
        have kp2 : ∀ a i : Nat, (a = 113 ∧ i = 0) ∨ ((a = 114 ∨ a = 115) ∧ i < 60) → hI h2 a i = hI h1 a i := by
          rintro a i (⟨rfl, rfl⟩ | ⟨rfl | rfl, hi⟩)
          · exact f2'.2.2.2.2.1 0 (by omega)
          · exact (f2'.2.2.2.2.2 i (by omega)).1
          · exact (f2'.2.2.2.2.2 i (by omega)).2
        cases q with
        | inl f =>
          obtain ⟨v1, g21, g22⟩ := g2
          refine Wp_ifp (by rw [v1]; rfl) (Wp_ck (by rw [k92 x2.1]) (Wp_ret ⟨f1.tr f2, y0.trans z0, y1.trans z1, g21, g22.1, g22.2, fun a i q => (kp2 a i q).trans (kp a i q)⟩))
        | inr p2 =>
          obtain ⟨v1, l2, hp2⟩ := g2
          have hn2 : n + 1 ≤ 60 := by
            by_cases z : 60 ≤ n
            · exfalso
              unfold evL at eq
              rw [if_pos z] at eq
              split at eq <;> cases eq
            · omega
          refine Wp_ifn (by rw [v1]; decide) ?_
          exact ih (n + 1) _ _ p2 h2 (by omega) (f1.tr f2) (y0.trans z0) (y1.trans z1) (fun a i q => (kp2 a i q).trans (kp a i q)) x2 l2 hp2 (c2 v1) hn2 fu (by omega)
  unfold Mo_evening
  refine Wp_ck (by rw [k92 x.1]) (Wp_lt ?_)
  have f1 : FrV0 h (wI h 92 0 0) := FrV0.rf.w (by unfold Q0; omega)
  have s1 := f1.1.shp x.1
  refine Wp_bn (p92_32 s1) (Wp_ck (by rw [k113 s1]) (Wp_ck (by rw [k113 s1]; decide) (Wp_lt ?_)))
  rw [show ix 5 = 5 from rfl]
  have f2 : FrV0 h (wI (wI h 92 0 0) 113 5 0) := f1.w (by omega)
  have x2 : Tx0 T L (wI (wI h 92 0 0) 113 5 0) := ⟨f2.1.shp x.1, x.2.1, x.2.2.1, by rw [hI_wI, if_neg (by omega), hI_wI, if_neg (by omega)]; exact x.2.2.2.1, fun k hk => by rw [f2.1.I (by omega)]; exact x.2.2.2.2 k hk⟩
  refine Wp_bd2 (startsM hN x2) ?_
  rintro - h3 ⟨f3, x3, l3, e31, e3a, e30⟩
  refine key 61 0 _ _ 0 h3 rfl (f2.tr f3) ?_ e31 (fun a i q => ?_) x3 l3 (by omega) ⟨?_, fun i hi => by omega⟩ (by omega) N (by omega)
  · rw [e30, hI_wI, if_neg (by omega), hI_wI, if_pos ⟨rfl, rfl⟩, il0]
  · rw [e3a a (by omega), hI_wI, if_neg (by omega), hI_wI, if_neg (by omega)]
  · rw [e3a 113 (by omega), hI_wI, if_pos ⟨rfl, rfl⟩]
    rfl
