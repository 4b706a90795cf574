/-! THE PURE PROOFS, 77: the class is asked: the best of many; counts. -/
section
variable {N c : Nat} {g : Gs} {h : PH}
/-- MEAN of a habit, the light going off at that quarter -/
def mnU (g : Gs) (z u : Int) : Int := Fq (gsH g) (gsC g) (gE2 g) z 0 u (gsN g 0) (gsN g 1) (gsN g 2) (gsN g 7)
theorem mnU_b (k : GOK g) (z u : Int) : -36000000 ≤ mnU g z u ∧ mnU g z u ≤ 30000000 := by
  have b := n_b k
  exact Fq_bd k.1 (EvE_ok (gsE g) (gsH g)) z 0 u (q := gsN g 0) b.1 (gsN g 1) (gsN g 2) (gsN g 7) b.2.1.1 b.2.1.2 b.2.2.1.1 b.2.2.1.2 b.2.2.2.1
def fClose (g : Gs) (z : Int) : Int := if hbt g z ∧ gsN g 6 = 0 then amax (mnU g z) (gsH g 0 - gsN g 0).toNat (gsN g 0 + 1) (gsN g 0) (mnU g z (gsN g 0)) else -1
theorem leCloseL {z : Int} (hN : 24000 ≤ N) (hc : c ≤ 90000) (x : LeI c g h) (k : GOK g) (hz : -2147483648 ≤ z ∧ z < 2147483648) : Wp (Le_close N 6 (iv z) h) (AnsL c g h (fClose g z)) := by
  have s := x.s
  have b := n_b k
  unfold Le_close fClose
  rw [im1]
  refine Wp_ck (by rw [k6 s]) (Wp_bde (hasHabitL x k hz) ?_)
  by_cases o : hbt g z
  · rw [decide_eq_true o]
    refine Wp_ifn (by decide) (Wp_ck (by rw [k6 s]) (Wp_bn (p6_6 s) (Wp_ck (by rw [k32 s]) ?_)))
    rw [x.f0.2.2.2.2.2]
    by_cases d : gsN g 6 = 0
    · rw [decide_eq_true d, if_pos (show hbt g z ∧ gsN g 6 = 0 from ⟨o, d⟩)]
      refine Wp_ifn (by decide) (Wp_bn (p6_15 s) (Wp_ck (by rw [k45 s]) ?_))
      rw [x.f0.1, p6_6 s]
      have key : ∀ (m : Nat) (q bq bm : Int) (c1 : Nat) (h1 : PH), q + m = gsH g 0 + 1 → gsN g 0 ≤ q → c1 + m ≤ c + 30 → (0 ≤ bq ∧ bq ≤ 24) → (-36000000 ≤ bm ∧ bm ≤ 30000000) → LeI c1 g h1 → CFr h h1 → ∀ fuel, m < fuel → Wp (Le_close_b53 N fuel 6 (iv z) (iv bq) (iv bm) (iv q) h1) (AnsL c g h (amax (mnU g z) m q bq bm)) := by
        intro m
        induction m with
        | zero =>
          intro q bq bm c1 h1 eq _ hc1 _ _ x1 f1 fuel hf
          obtain ⟨fu, rfl⟩ : ∃ e, fuel = e + 1 := ⟨fuel - 1, by omega⟩
          have s1 := x1.s
          rw [Le_close_b53]
          refine Wp_ck (by rw [k6 s1]) (Wp_bn (p6_1 s1) (Wp_ck (by rw [k10 s1]) ?_))
          rw [x1.g0.1]
          exact Wp_ifp (by rw [iv_lt (by omega) (by omega) (by omega) (by omega)]; omega) (Wp_ret ⟨rfl, x1.mono (by omega), f1⟩)
        | succ m ih =>
          intro q bq bm c1 h1 eq q0 hc1 hb1 hb2 x1 f1 fuel hf
          obtain ⟨fu, rfl⟩ : ∃ e, fuel = e + 1 := ⟨fuel - 1, by omega⟩
          have s1 := x1.s
          rw [Le_close_b53]
          refine Wp_ck (by rw [k6 s1]) (Wp_bn (p6_1 s1) (Wp_ck (by rw [k10 s1]) ?_))
          rw [x1.g0.1]
          refine Wp_ifn (by rw [iv_lt (by omega) (by omega) (by omega) (by omega)]; omega) (Wp_bn (p6_15 s1) (Wp_ck (by rw [k45 s1]) ?_))
          rw [p6_6 s1]
          refine Wp_bd2 (meanWL hN (by omega) x1 k o (u := q) (by omega)) ?_
          rintro v h2 ⟨ev, y, f⟩
          have ev2 : v = iv (mnU g z q) := ev
          have vb := mnU_b k z q
          rw [ev2]
          unfold Le_close_b93
          rw [amax, il1, iv_add]
          refine Wp_if (fun e => ?_) (fun e => ?_)
          · rw [iv_le (by omega) (by omega) (by omega) (by omega)] at e
            rw [if_pos e]
            exact ih (q + 1) bq bm (c1 + 1) h2 (by omega) (by omega) (by omega) hb1 hb2 y (f1.tr f) fu (by omega)
          · rw [iv_le (by omega) (by omega) (by omega) (by omega)] at e
            rw [if_neg e]
            exact ih (q + 1) q _ (c1 + 1) h2 (by omega) (by omega) (by omega) (by omega) vb y (f1.tr f) fu (by omega)
      refine Wp_bd2 (meanWL hN (by omega) x k o (u := gsN g 0) (by omega)) ?_
      rintro v h2 ⟨ev, y, f⟩
      have ev2 : v = iv (mnU g z (gsN g 0)) := ev
      have s2 := y.s
      refine Wp_ck (by rw [k6 s2]) (Wp_bn (p6_6 s2) (Wp_ck (by rw [k32 s2]) ?_))
      rw [y.f0.1, ev2, il1, iv_add]
      exact key _ _ _ _ (c + 1) h2 (by omega) (by omega) (by omega) (by omega) (mnU_b k z _) y f N (by omega)
    · rw [decide_eq_false d]
      exact Wp_ifp rfl (AnsL.no x (if_neg (fun y => d y.2)))
  · rw [decide_eq_false o]
    exact Wp_ifp rfl (AnsL.no x (if_neg (fun y => o y.1)))
def fHabits (g : Gs) : Int := if gsN g 6 = 0 ∧ gsH g 15 ≠ 0 then amax (fun z => mnU g z (gsH g 0)) (gsH g 15 - 1).toNat 1 0 (mnU g 0 (gsH g 0)) else -1
theorem leHabitsL (hN : 24000 ≤ N) (hc : c ≤ 90000) (x : LeI c g h) (k : GOK g) : Wp (Le_habits N 6 h) (AnsL c g h (fHabits g)) := by
  have s := x.s
  have b := n_b k
  unfold Le_habits fHabits
  rw [im1]
  refine Wp_ck (by rw [k6 s]) (Wp_bn (p6_6 s) (Wp_ck (by rw [k32 s]) ?_))
  rw [x.f0.2.2.2.2.2]
  by_cases d : gsN g 6 = 0
  · rw [decide_eq_true d]
    refine Wp_ifn (by decide) (Wp_bn (p6_1 s) (Wp_ck (by rw [k10 s]) ?_))
    rw [x.g0.2.2.2, x.g0.1, il0]
    refine Wp_if (fun e => ?_) (fun e => ?_)
    · rw [iv_eq (by omega) (by omega) (by omega) (by omega)] at e
      exact AnsL.no x (if_neg (by omega))
    rw [iv_eq (by omega) (by omega) (by omega) (by omega)] at e
    rw [if_pos (show gsN g 6 = 0 ∧ gsH g 15 ≠ 0 from ⟨d, e⟩)]
    refine Wp_bn (p6_15 s) (Wp_ck (by rw [k45 s]) ?_)
    rw [p6_6 s]
    have key : ∀ (m : Nat) (q bq bm : Int) (c1 : Nat) (h1 : PH), q + m = gsH g 15 → 0 ≤ q → c1 + m ≤ c + 30 → (0 ≤ bq ∧ bq ≤ 24) → (-36000000 ≤ bm ∧ bm ≤ 30000000) → LeI c1 g h1 → CFr h h1 → ∀ fuel, m < fuel → Wp (Le_habits_b46 N fuel 6 (iv bq) (iv bm) (iv q) h1) (AnsL c g h (amax (fun z => mnU g z (gsH g 0)) m q bq bm)) := by
      intro m
      induction m with
      | zero =>
        intro q bq bm c1 h1 eq _ hc1 _ _ x1 f1 fuel hf
        obtain ⟨fu, rfl⟩ : ∃ e, fuel = e + 1 := ⟨fuel - 1, by omega⟩
        have s1 := x1.s
        rw [Le_habits_b46]
        refine Wp_ck (by rw [k6 s1]) (Wp_bn (p6_1 s1) (Wp_ck (by rw [k10 s1]) ?_))
        rw [x1.g0.2.2.2]
        exact Wp_ifp (by rw [iv_le (by omega) (by omega) (by omega) (by omega)]; omega) (Wp_ret ⟨rfl, x1.mono (by omega), f1⟩)
      | succ m ih =>
        intro q bq bm c1 h1 eq q0 hc1 hb1 hb2 x1 f1 fuel hf
        obtain ⟨fu, rfl⟩ : ∃ e, fuel = e + 1 := ⟨fuel - 1, by omega⟩
        have s1 := x1.s
        rw [Le_habits_b46]
        refine Wp_ck (by rw [k6 s1]) (Wp_bn (p6_1 s1) (Wp_ck (by rw [k10 s1]) ?_))
        rw [x1.g0.2.2.2, x1.g0.1]
        refine Wp_ifn (by rw [iv_le (by omega) (by omega) (by omega) (by omega)]; omega) (Wp_bn (p6_15 s1) (Wp_ck (by rw [k45 s1]) ?_))
        rw [p6_6 s1]
        refine Wp_bd2 (meanWL hN (by omega) x1 k (z := q) (by omega) (u := gsH g 0) (by omega)) ?_
        rintro v h2 ⟨ev, y, f⟩
        have ev2 : v = iv (mnU g q (gsH g 0)) := ev
        have vb := mnU_b k q (gsH g 0)
        rw [ev2]
        unfold Le_habits_b89
        rw [amax, il1, iv_add]
        refine Wp_if (fun e => ?_) (fun e => ?_)
        · rw [iv_le (by omega) (by omega) (by omega) (by omega)] at e
          rw [if_pos e]
          exact ih (q + 1) bq bm (c1 + 1) h2 (by omega) (by omega) (by omega) hb1 hb2 y (f1.tr f) fu (by omega)
        · rw [iv_le (by omega) (by omega) (by omega) (by omega)] at e
          rw [if_neg e]
          exact ih (q + 1) q _ (c1 + 1) h2 (by omega) (by omega) (by omega) (by omega) vb y (f1.tr f) fu (by omega)
    refine Wp_bd2 (meanWL hN (by omega) x k (z := 0) (by omega) (u := gsH g 0) (by omega)) ?_
    rintro v h2 ⟨ev, y, f⟩
    have ev2 : v = iv (mnU g 0 (gsH g 0)) := ev
    rw [ev2, il1]
    exact key _ _ _ _ (c + 1) h2 (by omega) (by omega) (by omega) (by omega) (mnU_b k 0 _) y f N (by omega)
  · rw [decide_eq_false d]
    exact Wp_ifp rfl (AnsL.no x (if_neg (fun y => d y.1)))
def vlT (g : Gs) (a t : Int) : Int := Vq (gsH g) (gsC g) 0 0 (gsN g 0) t a (gsN g 7)
theorem vlT_b (k : GOK g) {a t : Int} (ha : 0 ≤ a ∧ a ≤ gsH g 2) (ht : 0 ≤ t ∧ t ≤ gsH g 1) : -30000000 ≤ vlT g a t ∧ vlT g a t ≤ 30000000 := by
  have b := n_b k
  have z := Vq_bd k.1 0 0 (q := gsN g 0) b.1 t a (gsN g 7) ht.1 ht.2 ha.1 ha.2 b.2.2.2.1
  unfold vlT
  omega
def fPeak (g : Gs) (a : Int) : Int := if opn g ∧ 0 ≤ a ∧ a ≤ gsH g 2 then amax (vlT g a) (gsH g 1).toNat 1 0 (vlT g a 0) else -1
theorem lePeakL {a : Int} (hN : 24000 ≤ N) (x : LeI c g h) (k : GOK g) (ha : -2147483648 ≤ a ∧ a < 2147483648) : Wp (Le_peak N 6 (iv a) h) (fun v h2 => v = iv (fPeak g a) ∧ LeI (c + 128) g h2 ∧ CFr h h2) := by
  have s := x.s
  have b := n_b k
  unfold Le_peak fPeak
  rw [im1, il0]
  have no : ¬ (opn g ∧ 0 ≤ a ∧ a ≤ gsH g 2) → Wp (some (iv (-1), h)) (fun v h2 => v = iv (if opn g ∧ 0 ≤ a ∧ a ≤ gsH g 2 then amax (vlT g a) (gsH g 1).toNat 1 0 (vlT g a 0) else -1) ∧ LeI (c + 128) g h2 ∧ CFr h h2) := fun e => Wp_ret ⟨by rw [if_neg e], x.mono (by omega), CFr.rf⟩
  refine Wp_if (fun e => ?_) (fun e => ?_)
  · rw [iv_lt (by omega) (by omega) (by omega) (by omega)] at e
    exact no (fun y => by have := y.2; omega)
  rw [iv_lt (by omega) (by omega) (by omega) (by omega)] at e
  refine Wp_ck (by rw [k6 s]) (Wp_bn (p6_1 s) (Wp_ck (by rw [k10 s]) ?_))
  rw [x.g0.2.2.1]
  refine Wp_if (fun e => ?_) (fun e => ?_)
  · rw [iv_lt (by omega) (by omega) (by omega) (by omega)] at e
    exact no (fun y => by have := y.2; omega)
  rw [iv_lt (by omega) (by omega) (by omega) (by omega)] at e
  refine Wp_bde (isOpenL x k) ?_
  by_cases o : opn g
  · rw [decide_eq_true o, if_pos (show opn g ∧ 0 ≤ a ∧ a ≤ gsH g 2 from ⟨o, by omega⟩)]
    refine Wp_ifn (by decide) (Wp_ck (by rw [k6 s]) (Wp_bn (p6_6 s) (Wp_ck (by rw [k32 s]) (Wp_bn (p6_12 s) (Wp_ck (by rw [k36 s]) ?_)))))
    rw [x.f0.1, x.w7 k]
    have key : ∀ (m : Nat) (q bq bm : Int) (c1 : Nat) (h1 : PH), q + m = gsH g 1 + 1 → 0 ≤ q → c1 + m ≤ c + 122 → (0 ≤ bq ∧ bq ≤ 120) → (-36000000 ≤ bm ∧ bm ≤ 30000000) → LeI c1 g h1 → CFr h h1 → ∀ fuel, m < fuel → Wp (Le_peak_b53 N fuel 6 (iv a) (iv bq) (iv bm) (iv q) h1) (fun v h2 => v = iv (amax (vlT g a) m q bq bm) ∧ LeI (c + 128) g h2 ∧ CFr h h2) := by
      intro m
      induction m with
      | zero =>
        intro q bq bm c1 h1 eq _ hc1 _ _ x1 f1 fuel hf
        obtain ⟨fu, rfl⟩ : ∃ e, fuel = e + 1 := ⟨fuel - 1, by omega⟩
        have s1 := x1.s
        rw [Le_peak_b53]
        refine Wp_ck (by rw [k6 s1]) (Wp_bn (p6_1 s1) (Wp_ck (by rw [k10 s1]) ?_))
        rw [x1.g0.2.1]
        exact Wp_ifp (by rw [iv_lt (by omega) (by omega) (by omega) (by omega)]; omega) (Wp_ret ⟨rfl, x1.mono (by omega), f1⟩)
      | succ m ih =>
        intro q bq bm c1 h1 eq q0 hc1 hb1 hb2 x1 f1 fuel hf
        obtain ⟨fu, rfl⟩ : ∃ e, fuel = e + 1 := ⟨fuel - 1, by omega⟩
        have s1 := x1.s
        rw [Le_peak_b53]
        refine Wp_ck (by rw [k6 s1]) (Wp_bn (p6_1 s1) (Wp_ck (by rw [k10 s1]) ?_))
        rw [x1.g0.2.1]
        refine Wp_ifn (by rw [iv_lt (by omega) (by omega) (by omega) (by omega)]; omega) (Wp_bn (p6_6 s1) (Wp_ck (by rw [k32 s1]) (Wp_bn (p6_12 s1) (Wp_ck (by rw [k36 s1]) ?_))))
        rw [x1.f0.1, x1.w7 k]
        refine Wp_bd2 (worth0L hN x1 k (t := q) b.1 (by omega) (by omega) b.2.2.2.1) ?_
        rintro v h2 ⟨ev, y, f⟩
        have ev2 : v = iv (vlT g a q) := ev
        have vb := vlT_b k (a := a) (t := q) (by omega) (by omega)
        rw [ev2]
        unfold Le_peak_b103
        rw [amax, il1, iv_add]
        refine Wp_if (fun e => ?_) (fun e => ?_)
        · rw [iv_le (by omega) (by omega) (by omega) (by omega)] at e
          rw [if_pos e]
          exact ih (q + 1) bq bm (c1 + 1) h2 (by omega) (by omega) (by omega) hb1 hb2 y (f1.tr f) fu (by omega)
        · rw [iv_le (by omega) (by omega) (by omega) (by omega)] at e
          rw [if_neg e]
          exact ih (q + 1) q _ (c1 + 1) h2 (by omega) (by omega) (by omega) (by omega) (by omega) y (f1.tr f) fu (by omega)
    refine Wp_bd2 (worth0L hN x k (t := 0) b.1 (by omega) (by omega) b.2.2.2.1) ?_
    rintro v h2 ⟨ev, y, f⟩
    have ev2 : v = iv (vlT g a 0) := ev
    have vb := vlT_b k (a := a) (t := 0) (by omega) (by omega)
    rw [ev2, il1]
    exact key _ _ _ _ (c + 1) h2 (by omega) (by omega) (by omega) (by omega) (by omega) y f N (by omega)
  · rw [decide_eq_false o]
    exact Wp_ifp rfl (no (fun y => o y.1))
def fCount (g : Gs) (w : Int) : Int := if w = 0 then gsH g 0 else if w = 1 then gsN g 0 else if w = 2 then gsN g 1 else if w = 3 then gsN g 2 else if w = 4 then gsN g 3 else if w = 5 then gsN g 4 else if w = 6 then 1 - gsN g 6 else if w = 7 then gsN g 7 else if w = 8 then gsH g 15 else if w = 9 then gsN g 9 else if w = 10 then gsN g 10 else if w = 11 then (gsV g).1 else if w = 12 then (gsU g).1 else if w = 13 then gsL g else if w = 14 then gsN g 5 else -1
theorem dz {v : Int} (e : v = 0 ∨ v = 1) : (if bI (decide (v = 1)) = 0 then (some ((0 : Int32), h) : Option (Int32 × PH)) else some (1, h)) = some (iv v, h) := by
  rcases e with rfl | rfl
  · rfl
  · rfl
theorem dz0 {v : Int} (e : v = 0 ∨ v = 1) : (if bI (decide (v = 0)) = 0 then (some ((0 : Int32), h) : Option (Int32 × PH)) else some (1, h)) = some (iv (1 - v), h) := by
  rcases e with rfl | rfl
  · rfl
  · rfl
theorem leCountL {w : Int} (x : LeI c g h) (k : GOK g) (hw : -2147483648 ≤ w ∧ w < 2147483648) : Wp (Le_count N 6 (iv w) h) (AnsL c g h (fCount g w)) := by
  have s := x.s
  obtain ⟨e0, e1, e2, e3, e13, e11, e9, e10, z5, z4, z6, z12, z7, z8⟩ := x.nt
  obtain ⟨n0, n1, n2, n3, n4, n5, n6, n7, -⟩ := k.2.2.1
  have ok : ∀ v : Int, v = fCount g w → Wp (some (iv v, h)) (AnsL c g h (fCount g w)) := fun v e => Wp_ret ⟨by rw [e], x.mono (by omega), CFr.rf⟩
  have a6 : (hK h 6).1 = 10 := by rw [k6 s]
  have a32 : (hK h 32).1 = 3 := by rw [k32 s]
  have a10 : (hK h 10).1 = 0 := by rw [k10 s]
  unfold Le_count
  by_cases c : w < 0 ∨ 14 < w
  · rw [im1]
    refine Wp_ifp (by rw [iv_to hw.1 hw.2]; exact c) (ok (-1) ?_)
    unfold fCount
    rw [if_neg (by omega), if_neg (by omega), if_neg (by omega), if_neg (by omega), if_neg (by omega), if_neg (by omega), if_neg (by omega), if_neg (by omega), if_neg (by omega), if_neg (by omega), if_neg (by omega), if_neg (by omega), if_neg (by omega), if_neg (by omega), if_neg (by omega)]
  · have cc : w = 0 ∨ w = 1 ∨ w = 2 ∨ w = 3 ∨ w = 4 ∨ w = 5 ∨ w = 6 ∨ w = 7 ∨ w = 8 ∨ w = 9 ∨ w = 10 ∨ w = 11 ∨ w = 12 ∨ w = 13 ∨ w = 14 := by omega
    rcases cc with rfl | rfl | rfl | rfl | rfl | rfl | rfl | rfl | rfl | rfl | rfl | rfl | rfl | rfl | rfl
    · refine Wp_ifn (by decide) (Wp_ifp (by decide) (Wp_ck a6 (Wp_bn (p6_1 s) (Wp_ck a10 ?_))))
      rw [x.g0.1]; exact ok _ rfl
    · refine Wp_ifn (by decide) (Wp_ifn (by decide) (Wp_ifp (by decide) (Wp_ck a6 (Wp_bn (p6_6 s) (Wp_ck a32 ?_)))))
      rw [e0]; exact ok _ rfl
    · refine Wp_ifn (by decide) (Wp_ifn (by decide) (Wp_ifn (by decide) (Wp_ifp (by decide) (Wp_ck a6 (Wp_bn (p6_6 s) (Wp_ck a32 ?_))))))
      rw [e1]; exact ok _ rfl
    · refine Wp_ifn (by decide) (Wp_ifn (by decide) (Wp_ifn (by decide) (Wp_ifn (by decide) (Wp_ifp (by decide) (Wp_ck a6 (Wp_bn (p6_6 s) (Wp_ck a32 ?_)))))))
      rw [e2]; exact ok _ rfl
    · refine Wp_ifn (by decide) (Wp_ifn (by decide) (Wp_ifn (by decide) (Wp_ifn (by decide) (Wp_ifn (by decide) (Wp_ifp (by decide) (Wp_ck a6 (Wp_bn (p6_6 s) (Wp_ck a32 ?_))))))))
      rw [e3]; exact ok _ rfl
    · refine Wp_ifn (by decide) (Wp_ifn (by decide) (Wp_ifn (by decide) (Wp_ifn (by decide) (Wp_ifn (by decide) (Wp_ifn (by decide) (Wp_ifp (by decide) (Wp_ck a6 (Wp_bn (p6_6 s) (Wp_ck a32 ?_)))))))))
      rw [z4, dz n4]; exact ok _ rfl
    · refine Wp_ifn (by decide) (Wp_ifn (by decide) (Wp_ifn (by decide) (Wp_ifn (by decide) (Wp_ifn (by decide) (Wp_ifn (by decide) (Wp_ifn (by decide) (Wp_ifp (by decide) (Wp_ck a6 (Wp_bn (p6_6 s) (Wp_ck a32 ?_))))))))))
      rw [z6, dz0 n6]; exact ok _ rfl
    · refine Wp_ifn (by decide) (Wp_ifn (by decide) (Wp_ifn (by decide) (Wp_ifn (by decide) (Wp_ifn (by decide) (Wp_ifn (by decide) (Wp_ifn (by decide) (Wp_ifn (by decide) (Wp_ifp (by decide) (Wp_ck a6 (Wp_bn (p6_6 s) (Wp_ck a32 ?_)))))))))))
      rw [z7, dz n7]; exact ok _ rfl
    · refine Wp_ifn (by decide) (Wp_ifn (by decide) (Wp_ifn (by decide) (Wp_ifn (by decide) (Wp_ifn (by decide) (Wp_ifn (by decide) (Wp_ifn (by decide) (Wp_ifn (by decide) (Wp_ifn (by decide) (Wp_ifp (by decide) (Wp_ck a6 (Wp_bn (p6_1 s) (Wp_ck a10 ?_))))))))))))
      rw [x.g0.2.2.2]; exact ok _ rfl
    · refine Wp_ifn (by decide) (Wp_ifn (by decide) (Wp_ifn (by decide) (Wp_ifn (by decide) (Wp_ifn (by decide) (Wp_ifn (by decide) (Wp_ifn (by decide) (Wp_ifn (by decide) (Wp_ifn (by decide) (Wp_ifn (by decide) (Wp_ifp (by decide) (Wp_ck a6 (Wp_bn (p6_6 s) (Wp_ck a32 ?_)))))))))))))
      rw [e9]; exact ok _ rfl
    · refine Wp_ifn (by decide) (Wp_ifn (by decide) (Wp_ifn (by decide) (Wp_ifn (by decide) (Wp_ifn (by decide) (Wp_ifn (by decide) (Wp_ifn (by decide) (Wp_ifn (by decide) (Wp_ifn (by decide) (Wp_ifn (by decide) (Wp_ifn (by decide) (Wp_ifp (by decide) (Wp_ck a6 (Wp_bn (p6_6 s) (Wp_ck a32 ?_))))))))))))))
      rw [e10]; exact ok _ rfl
    · refine Wp_ifn (by decide) (Wp_ifn (by decide) (Wp_ifn (by decide) (Wp_ifn (by decide) (Wp_ifn (by decide) (Wp_ifn (by decide) (Wp_ifn (by decide) (Wp_ifn (by decide) (Wp_ifn (by decide) (Wp_ifn (by decide) (Wp_ifn (by decide) (Wp_ifn (by decide) (Wp_ifp (by decide) (Wp_ck a6 (Wp_bn (p6_3 s) (Wp_ck (by rw [k22 s]) ?_)))))))))))))))
      rw [x.1.2.2.2.2.1.1]; exact ok _ rfl
    · refine Wp_ifn (by decide) (Wp_ifn (by decide) (Wp_ifn (by decide) (Wp_ifn (by decide) (Wp_ifn (by decide) (Wp_ifn (by decide) (Wp_ifn (by decide) (Wp_ifn (by decide) (Wp_ifn (by decide) (Wp_ifn (by decide) (Wp_ifn (by decide) (Wp_ifn (by decide) (Wp_ifn (by decide) (Wp_ifp (by decide) (Wp_ck a6 ?_))))))))))))))
      obtain ⟨p, -, -, eu, -⟩ := x.1.2.2.2.2.2.1
      rw [eu]; exact ok _ rfl
    · refine Wp_ifn (by decide) (Wp_ifn (by decide) (Wp_ifn (by decide) (Wp_ifn (by decide) (Wp_ifn (by decide) (Wp_ifn (by decide) (Wp_ifn (by decide) (Wp_ifn (by decide) (Wp_ifn (by decide) (Wp_ifn (by decide) (Wp_ifn (by decide) (Wp_ifn (by decide) (Wp_ifn (by decide) (Wp_ifn (by decide) (Wp_ifp (by decide) (Wp_ck a6 (Wp_bn (p6_0 s) (Wp_ck (by rw [k7 s]) ?_)))))))))))))))))
      rw [x.1.1.2.2.2.2.1]; exact ok _ rfl
    · refine Wp_ifn (by decide) (Wp_ifn (by decide) (Wp_ifn (by decide) (Wp_ifn (by decide) (Wp_ifn (by decide) (Wp_ifn (by decide) (Wp_ifn (by decide) (Wp_ifn (by decide) (Wp_ifn (by decide) (Wp_ifn (by decide) (Wp_ifn (by decide) (Wp_ifn (by decide) (Wp_ifn (by decide) (Wp_ifn (by decide) (Wp_ifn (by decide) (Wp_ifp (by decide) (Wp_ck a6 (Wp_bn (p6_6 s) (Wp_ck a32 ?_))))))))))))))))))
      rw [z5, dz n5]; exact ok _ rfl
end
