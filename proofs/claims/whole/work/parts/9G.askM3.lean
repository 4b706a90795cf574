/-! THE PURE PROOFS, 84: the reference is asked: the best of many, counts. -/
section
variable {N : Nat} {g : Gs} {h : PH}
theorem moCloseM {z : Int} (hN : 3000 ≤ N) (x : RestM g h) (k : GOK g) (hz : -2147483648 ≤ z ∧ z < 2147483648) : Wp (Mo_close N 92 (iv z) h) (AnsM g h (fClose g z)) := by
  have s0 := x.s
  have b := n_b k
  unfold Mo_close fClose
  rw [im1, il0, il1]
  refine Wp_ck (by rw [k92 s0]) (Wp_lt ?_)
  have x1 := x.t0 (v := iv 0)
  have f1 : MFr h (wI h 92 0 (iv 0)) := t0F
  generalize wI h 92 0 (iv 0) = h1 at x1 f1 ⊢
  have s1 := x1.s
  refine Wp_bde (isHabM x1 k hz) ?_
  by_cases o : hbt g z
  · rw [decide_eq_true o]
    refine Wp_ifn (by decide) (Wp_ck (by rw [k92 s1]) (Wp_bn (p92_35 s1) (Wp_ck (by rw [k116 s1]) (Wp_ck (by rw [k116 s1]; decide) ?_))))
    rw [ix_l 6 (by omega), n6M x1]
    refine Wp_if (fun c => ?_) (fun c => ?_)
    · rw [iv_eq (by omega) (by omega) (by omega) (by omega)] at c
      exact AnsM.no x1 f1 (if_neg (fun y => by omega))
    · rw [iv_eq (by omega) (by omega) (by omega) (by omega)] at c
      rw [if_pos (show hbt g z ∧ gsN g 6 = 0 from ⟨o, by omega⟩)]
      refine Wp_ck (by rw [k116 s1]; decide) ?_
      rw [ixA0, x1.nt 0 (by omega)]
      have key : ∀ (m : Nat) (q bq bm : Int) (h2 : PH), q + m = gsH g 0 + 1 → gsN g 0 ≤ q → (0 ≤ bq ∧ bq ≤ 24) → (-36000000 ≤ bm ∧ bm ≤ 30000000) → RestM g h2 → MFr h h2 → ∀ fuel, m < fuel → Wp (Mo_close_b38 N fuel 92 (iv z) (iv bq) (iv bm) (iv q) h2) (AnsM g h (amax (mnU g z) m q bq bm)) := by
        intro m
        induction m with
        | zero =>
          intro q bq bm h2 eq _ _ _ x2 f2 fuel hf
          obtain ⟨fu, rfl⟩ : ∃ e, fuel = e + 1 := ⟨fuel - 1, by omega⟩
          have s2 := x2.s
          rw [Mo_close_b38]
          refine Wp_ck (by rw [k92 s2]) (Wp_bn (p92_10 s2) (Wp_ck (by rw [k94 s2]) (Wp_ck (by rw [k94 s2]; decide) ?_)))
          rw [ix_l 0 (by omega), x2.hs.1 0 (by omega)]
          exact Wp_ifp (by rw [iv_lt (by omega) (by omega) (by omega) (by omega)]; omega) (Wp_ret ⟨rfl, x2, f2⟩)
        | succ m ih =>
          intro q bq bm h2 eq q0 hb1 hb2 x2 f2 fuel hf
          obtain ⟨fu, rfl⟩ : ∃ e, fuel = e + 1 := ⟨fuel - 1, by omega⟩
          have s2 := x2.s
          rw [Mo_close_b38]
          refine Wp_ck (by rw [k92 s2]) (Wp_bn (p92_10 s2) (Wp_ck (by rw [k94 s2]) (Wp_ck (by rw [k94 s2]; decide) ?_)))
          rw [ix_l 0 (by omega), x2.hs.1 0 (by omega), il0]
          refine Wp_ifn (by rw [iv_lt (by omega) (by omega) (by omega) (by omega)]; omega) (Wp_bd2 (meanR hN x2 k o (Or.inl rfl) (u := q) (by omega)) ?_)
          rintro v h3 ⟨ev, y, f, -⟩
          have ev2 : v = iv (mnU g z q) := ev
          have vb := mnU_b k z q
          rw [ev2]
          refine Wp_ifn (by rw [iv_lt (by omega) (by omega) (by omega) (by omega)]; omega) ?_
          unfold Mo_close_b72 Mo_close_b78
          rw [amax, il1, iv_add]
          refine Wp_if (fun e => ?_) (fun e => ?_)
          · rw [iv_lt (by omega) (by omega) (by omega) (by omega)] at e
            rw [if_neg (by omega)]
            exact ih (q + 1) q _ h3 (by omega) (by omega) (by omega) vb y (f2.tr f) fu (by omega)
          · rw [iv_lt (by omega) (by omega) (by omega) (by omega)] at e
            rw [if_pos (by omega)]
            exact ih (q + 1) bq bm h3 (by omega) (by omega) hb1 hb2 y (f2.tr f) fu (by omega)
      obtain ⟨fu, rfl⟩ : ∃ e, N = e + 1 := ⟨N - 1, by omega⟩
      have s2 := s1
      rw [Mo_close_b38]
      refine Wp_ck (by rw [k92 s2]) (Wp_bn (p92_10 s2) (Wp_ck (by rw [k94 s2]) (Wp_ck (by rw [k94 s2]; decide) ?_)))
      rw [ix_l 0 (by omega), x1.hs.1 0 (by omega), il0]
      refine Wp_ifn (by rw [iv_lt (by omega) (by omega) (by omega) (by omega)]; omega) (Wp_bd2 (meanR hN x1 k o (Or.inl rfl) (u := gsN g 0) (by omega)) ?_)
      rintro v h3 ⟨ev, y, f, -⟩
      have ev2 : v = iv (mnU g z (gsN g 0)) := ev
      rw [ev2]
      refine Wp_ifp (by decide) ?_
      unfold Mo_close_b72 Mo_close_b78
      rw [il1, iv_add]
      exact key _ _ _ _ h3 (by omega) (by omega) (by omega) (mnU_b k z _) y (f1.tr f) fu (by omega)
  · rw [decide_eq_false o]
    exact Wp_ifp (by decide) (AnsM.no x1 f1 (if_neg (fun y => o y.1)))
theorem moHabitsM (hN : 3000 ≤ N) (x : RestM g h) (k : GOK g) : Wp (Mo_habits N 92 h) (AnsM g h (fHabits g)) := by
  have s0 := x.s
  have b := n_b k
  have ne : ∀ z : Int, Fq (gsH g) (gsC g) (gE2 g) z 0 (-1) (gsN g 0) (gsN g 1) (gsN g 2) (gsN g 7) = mnU g z (gsH g 0) := fun z => Fq_never (gsH g 0 - gsN g 0).toNat (gsN g 0) _ _ _ b.1.1 (by omega)
  unfold Mo_habits fHabits
  rw [im1, il0, il1]
  refine Wp_ck (by rw [k92 s0]) (Wp_lt ?_)
  have x1 := x.t0 (v := iv 0)
  have f1 : MFr h (wI h 92 0 (iv 0)) := t0F
  generalize wI h 92 0 (iv 0) = h1 at x1 f1 ⊢
  have s1 := x1.s
  refine Wp_bn (p92_35 s1) (Wp_ck (by rw [k116 s1]) (Wp_ck (by rw [k116 s1]; decide) ?_))
  rw [ix_l 6 (by omega), n6M x1]
  refine Wp_if (fun c => ?_) (fun c => ?_)
  · rw [iv_eq (by omega) (by omega) (by omega) (by omega)] at c
    exact AnsM.no x1 f1 (if_neg (fun y => by omega))
  rw [iv_eq (by omega) (by omega) (by omega) (by omega)] at c
  have key : ∀ (m : Nat) (q bq bm : Int) (h2 : PH), q + m = gsH g 15 → 0 ≤ q → (0 ≤ bq ∧ bq ≤ 24) → (-36000000 ≤ bm ∧ bm ≤ 30000000) → RestM g h2 → MFr h h2 → ∀ fuel, m < fuel → Wp (Mo_habits_b24 N fuel 92 (iv bq) (iv bm) (iv q) h2) (AnsM g h (amax (fun z => mnU g z (gsH g 0)) m q bq bm)) := by
    intro m
    induction m with
    | zero =>
      intro q bq bm h2 eq _ _ _ x2 f2 fuel hf
      obtain ⟨fu, rfl⟩ : ∃ e, fuel = e + 1 := ⟨fuel - 1, by omega⟩
      have s2 := x2.s
      rw [Mo_habits_b24]
      refine Wp_ck (by rw [k92 s2]) (Wp_bn (p92_10 s2) (Wp_ck (by rw [k94 s2]) (Wp_ck (by rw [k94 s2]; decide) ?_)))
      rw [ix_l 15 (by omega), x2.hs.1 15 (by omega)]
      exact Wp_ifp (by rw [iv_le (by omega) (by omega) (by omega) (by omega)]; omega) (Wp_ret ⟨rfl, x2, f2⟩)
    | succ m ih =>
      intro q bq bm h2 eq q0 hb1 hb2 x2 f2 fuel hf
      obtain ⟨fu, rfl⟩ : ∃ e, fuel = e + 1 := ⟨fuel - 1, by omega⟩
      have s2 := x2.s
      rw [Mo_habits_b24]
      refine Wp_ck (by rw [k92 s2]) (Wp_bn (p92_10 s2) (Wp_ck (by rw [k94 s2]) (Wp_ck (by rw [k94 s2]; decide) ?_)))
      rw [ix_l 15 (by omega), x2.hs.1 15 (by omega), im1, il0]
      refine Wp_ifn (by rw [iv_le (by omega) (by omega) (by omega) (by omega)]; omega) (Wp_bd2 (meanR hN x2 k (z := q) (by omega) (Or.inl rfl) (by omega)) ?_)
      rintro v h3 ⟨ev, y, f, -⟩
      have ev2 : v = iv (mnU g q (gsH g 0)) := by rw [ev, ne]
      have vb := mnU_b k q (gsH g 0)
      rw [ev2]
      refine Wp_ifn (by rw [iv_lt (by omega) (by omega) (by omega) (by omega)]; omega) ?_
      unfold Mo_habits_b57 Mo_habits_b62
      rw [amax, il1, iv_add]
      refine Wp_if (fun e => ?_) (fun e => ?_)
      · rw [iv_lt (by omega) (by omega) (by omega) (by omega)] at e
        rw [if_neg (by omega)]
        exact ih (q + 1) q _ h3 (by omega) (by omega) (by omega) vb y (f2.tr f) fu (by omega)
      · rw [iv_lt (by omega) (by omega) (by omega) (by omega)] at e
        rw [if_pos (by omega)]
        exact ih (q + 1) bq bm h3 (by omega) (by omega) hb1 hb2 y (f2.tr f) fu (by omega)
  obtain ⟨fu, rfl⟩ : ∃ e, N = e + 1 := ⟨N - 1, by omega⟩
  have s2 := s1
  rw [Mo_habits_b24]
  refine Wp_ck (by rw [k92 s2]) (Wp_bn (p92_10 s2) (Wp_ck (by rw [k94 s2]) (Wp_ck (by rw [k94 s2]; decide) ?_)))
  rw [ix_l 15 (by omega), x1.hs.1 15 (by omega), im1, il0]
  refine Wp_if (fun e => ?_) (fun e => ?_)
  · rw [iv_le (by omega) (by omega) (by omega) (by omega)] at e
    exact AnsM.no x1 f1 (if_neg (fun y => by omega))
  rw [iv_le (by omega) (by omega) (by omega) (by omega)] at e
  rw [if_pos (by omega)]
  refine Wp_bd2 (meanR hN x1 k (z := 0) (by omega) (Or.inl rfl) (by omega)) ?_
  rintro v h3 ⟨ev, y, f, -⟩
  have ev2 : v = iv (mnU g 0 (gsH g 0)) := by rw [ev, ne]
  rw [ev2]
  refine Wp_ifp (by decide) ?_
  unfold Mo_habits_b57 Mo_habits_b62
  rw [il1, iv_add]
  exact key _ _ _ _ h3 (by omega) (by omega) (by omega) (mnU_b k 0 _) y (f1.tr f) fu (by omega)
theorem moPeakM {a : Int} (hN : 3000 ≤ N) (x : RestM g h) (k : GOK g) (ha : -2147483648 ≤ a ∧ a < 2147483648) : Wp (Mo_peak N 92 (iv a) h) (AnsM g h (fPeak g a)) := by
  have s0 := x.s
  have b := n_b k
  unfold Mo_peak fPeak
  rw [im1, il0, il1]
  refine Wp_ck (by rw [k92 s0]) (Wp_lt ?_)
  have x1 := x.t0 (v := iv 0)
  have f1 : MFr h (wI h 92 0 (iv 0)) := t0F
  generalize wI h 92 0 (iv 0) = h1 at x1 f1 ⊢
  have s1 := x1.s
  refine Wp_bde (isOnM x1 k) ?_
  by_cases o : opn g
  · rw [decide_eq_true o]
    refine Wp_ifn (by decide) (Wp_ck (by rw [k92 s1]) (Wp_bn (p92_10 s1) (Wp_ck (by rw [k94 s1]) (Wp_ck (by rw [k94 s1]; decide) ?_))))
    rw [ix_l 2 (by omega), x1.hs.1 2 (by omega)]
    refine Wp_bde (within_eq (by omega) (by omega) (by omega)) ?_
    by_cases o2 : 0 ≤ a ∧ a ≤ gsH g 2
    · rw [decide_eq_true o2, if_pos (show opn g ∧ 0 ≤ a ∧ a ≤ gsH g 2 from ⟨o, o2⟩)]
      refine Wp_ifn (by decide) (Wp_ck (by rw [k92 s1]) (Wp_bd2 (laysR hN x1 k (Or.inl rfl) (Or.inl rfl)) ?_))
      rintro - h2 ⟨y, f, e0, fl, ab⟩
      have s2 := y.s
      have at_ : ∀ t : Int, 0 ≤ t → t ≤ gsH g 1 → (0 ≤ plM (gsN g 0) t a (gsN g 7) ∧ plM (gsN g 0) t a (gsN g 7) < 78650) ∧ hI h2 121 (ix (iv (plM (gsN g 0) t a (gsN g 7)))) = iv (vlT g a t) := by
        intro t t0 t1
        have pb := plM_b (q := gsN g 0) (t := t) (a := a) (w := gsN g 7) (by omega) (by omega) (by omega) (by omega)
        refine ⟨pb, ?_⟩
        rw [ix_iv pb.1 (by omega)]
        exact ab (gsN g 0) (by omega) (by omega) _ _ _ (by omega) (by omega) (by omega) (by omega) b.2.2.2.1
      refine Wp_ck (by rw [k92 s2]) (Wp_bn (p92_35 s2) (Wp_ck (by rw [k116 s2]) (Wp_ck (by rw [k116 s2]; decide) (Wp_ck (by rw [k116 s2]; decide) ?_))))
      rw [ixA0, ix_l 7 (by omega), y.nt 0 (by omega), y.nt 7 (by omega)]
      have p0 := at_ 0 (by omega) (by omega)
      refine Wp_bde atM (Wp_bn (p92_44 s2) (Wp_ck (by rw [k121 s2]) (Wp_ck (by rw [k121 s2]; exact inb_iv p0.1.1 p0.1.2 (by omega)) ?_)))
      rw [p0.2]
      have key : ∀ (m : Nat) (t bq bm : Int), t + m = gsH g 1 + 1 → 0 ≤ t → (0 ≤ bq ∧ bq ≤ 120) → (-30000000 ≤ bm ∧ bm ≤ 30000000) → ∀ fuel, m < fuel → Wp (Mo_peak_b63 N fuel 92 (iv a) (iv bq) (iv bm) (iv t) h2) (AnsM g h (amax (vlT g a) m t bq bm)) := by
        intro m
        induction m with
        | zero =>
          intro t bq bm eq _ _ _ fuel hf
          obtain ⟨fu, rfl⟩ : ∃ e, fuel = e + 1 := ⟨fuel - 1, by omega⟩
          rw [Mo_peak_b63]
          refine Wp_ck (by rw [k92 s2]) (Wp_bn (p92_10 s2) (Wp_ck (by rw [k94 s2]) (Wp_ck (by rw [k94 s2]; decide) ?_)))
          rw [ix_l 1 (by omega), y.hs.1 1 (by omega)]
          exact Wp_ifp (by rw [iv_lt (by omega) (by omega) (by omega) (by omega)]; omega) (Wp_ret ⟨rfl, y, f1.tr f⟩)
        | succ m ih =>
          intro t bq bm eq q0 hb1 hb2 fuel hf
          obtain ⟨fu, rfl⟩ : ∃ e, fuel = e + 1 := ⟨fuel - 1, by omega⟩
          have p1 := at_ t (by omega) (by omega)
          have vb := vlT_b k (a := a) (t := t) o2 (by omega)
          rw [Mo_peak_b63]
          refine Wp_ck (by rw [k92 s2]) (Wp_bn (p92_10 s2) (Wp_ck (by rw [k94 s2]) (Wp_ck (by rw [k94 s2]; decide) ?_)))
          rw [ix_l 1 (by omega), y.hs.1 1 (by omega)]
          refine Wp_ifn (by rw [iv_lt (by omega) (by omega) (by omega) (by omega)]; omega) (Wp_bn (p92_35 s2) (Wp_ck (by rw [k116 s2]) (Wp_ck (by rw [k116 s2]; decide) (Wp_ck (by rw [k116 s2]; decide) ?_))))
          rw [ix_l 0 (by omega), ix_l 7 (by omega), y.nt 0 (by omega), y.nt 7 (by omega)]
          refine Wp_bde atM (Wp_bn (p92_44 s2) (Wp_ck (by rw [k121 s2]) (Wp_ck (by rw [k121 s2]; exact inb_iv p1.1.1 p1.1.2 (by omega)) ?_)))
          rw [p1.2]
          unfold Mo_peak_b115
          rw [amax, il1, iv_add]
          refine Wp_if (fun e => ?_) (fun e => ?_)
          · rw [iv_lt (by omega) (by omega) (by omega) (by omega)] at e
            rw [if_neg (by omega)]
            exact ih (t + 1) t _ (by omega) (by omega) (by omega) vb fu (by omega)
          · rw [iv_lt (by omega) (by omega) (by omega) (by omega)] at e
            rw [if_pos (by omega)]
            exact ih (t + 1) bq bm (by omega) (by omega) hb1 hb2 fu (by omega)
      exact key _ _ _ _ (by omega) (by omega) (by omega) (vlT_b k o2 (by omega)) N (by omega)
    · rw [decide_eq_false o2]
      exact Wp_ifp (by decide) (AnsM.no x1 f1 (if_neg (fun y => o2 y.2)))
  · rw [decide_eq_false o]
    exact Wp_ifp (by decide) (AnsM.no x1 f1 (if_neg (fun y => o y.1)))
theorem moCountM {w : Int} (x : RestM g h) (hw : -2147483648 ≤ w ∧ w < 2147483648) : Wp (Mo_count N 92 (iv w) h) (AnsM g h (fCount g w)) := by
  have s0 := x.s
  unfold Mo_count
  rw [im1, il0]
  refine Wp_ck (by rw [k92 s0]) (Wp_lt ?_)
  have x1 := x.t0 (v := iv 0)
  have f1 : MFr h (wI h 92 0 (iv 0)) := t0F
  generalize wI h 92 0 (iv 0) = h1 at x1 f1 ⊢
  have s := x1.s
  have ok : ∀ v : Int, v = fCount g w → Wp (some (iv v, h1)) (AnsM g h (fCount g w)) := fun v e => Wp_ret ⟨by rw [e], x1, f1⟩
  have a92 : (hK h1 92).1 = 11 := by rw [k92 s]
  have a116 : (hK h1 116).1 = 20 := by rw [k116 s]
  have a94 : (hK h1 94).1 = 20 := by rw [k94 s]
  rw [show (14 : Int32) = iv 14 from iv_lit _]
  refine Wp_bde (within_eq (by omega) (by omega) (by omega)) ?_
  by_cases c : 0 ≤ w ∧ w ≤ 14
  · rw [decide_eq_true c]
    refine Wp_ifn (by decide) ?_
    have cc : w = 0 ∨ w = 1 ∨ w = 2 ∨ w = 3 ∨ w = 4 ∨ w = 5 ∨ w = 6 ∨ w = 7 ∨ w = 8 ∨ w = 9 ∨ w = 10 ∨ w = 11 ∨ w = 12 ∨ w = 13 ∨ w = 14 := by omega
    rcases cc with rfl | rfl | rfl | rfl | rfl | rfl | rfl | rfl | rfl | rfl | rfl | rfl | rfl | rfl | rfl
    · refine Wp_ifn (by decide) (Wp_ifp (by decide) (Wp_ck a92 (Wp_bn (p92_10 s) (Wp_ck a94 (Wp_ck (by rw [k94 s]; decide) ?_)))))
      rw [ixA0, x1.hs.1 0 (by omega)]; exact ok _ rfl
    · refine Wp_ifn (by decide) (Wp_ifn (by decide) (Wp_ck a92 (Wp_bn (p92_35 s) (Wp_ck a116 (Wp_ck (by rw [k116 s]; decide) ?_)))))
      rw [ixA0, x1.nt 0 (by omega)]; exact ok _ rfl
    · refine Wp_ifp (by decide) (Wp_ifn (by decide) (Wp_ck a92 (Wp_bn (p92_35 s) (Wp_ck a116 (Wp_ck (by rw [k116 s]; decide) ?_)))))
      rw [show ix (iv 2 - 1) = 1 from by decide, x1.nt 1 (by omega)]; exact ok _ rfl
    · refine Wp_ifp (by decide) (Wp_ifn (by decide) (Wp_ck a92 (Wp_bn (p92_35 s) (Wp_ck a116 (Wp_ck (by rw [k116 s]; decide) ?_)))))
      rw [show ix (iv 3 - 1) = 2 from by decide, x1.nt 2 (by omega)]; exact ok _ rfl
    · refine Wp_ifp (by decide) (Wp_ifn (by decide) (Wp_ck a92 (Wp_bn (p92_35 s) (Wp_ck a116 (Wp_ck (by rw [k116 s]; decide) ?_)))))
      rw [show ix (iv 4 - 1) = 3 from by decide, x1.nt 3 (by omega)]; exact ok _ rfl
    · refine Wp_ifp (by decide) (Wp_ifn (by decide) (Wp_ck a92 (Wp_bn (p92_35 s) (Wp_ck a116 (Wp_ck (by rw [k116 s]; decide) ?_)))))
      rw [show ix (iv 5 - 1) = 4 from by decide, x1.nt 4 (by omega)]; exact ok _ rfl
    · refine Wp_ifp (by decide) (Wp_ifp (by decide) (Wp_ifp (by decide) (Wp_ck a92 (Wp_bn (p92_35 s) (Wp_ck a116 (Wp_ck (by rw [k116 s]; decide) ?_))))))
      rw [ix_l 6 (by omega), n6M x1, il1, iv_sub]; exact ok _ rfl
    · refine Wp_ifp (by decide) (Wp_ifp (by decide) (Wp_ifn (by decide) (Wp_ifn (by decide) (Wp_ifp (by decide) (Wp_ck a92 (Wp_bn (p92_35 s) (Wp_ck a116 (Wp_ck (by rw [k116 s]; decide) ?_))))))))
      rw [ix_l 7 (by omega), x1.nt 7 (by omega)]; exact ok _ rfl
    · refine Wp_ifp (by decide) (Wp_ifp (by decide) (Wp_ifn (by decide) (Wp_ifn (by decide) (Wp_ifn (by decide) (Wp_ck a92 (Wp_bn (p92_10 s) (Wp_ck a94 (Wp_ck (by rw [k94 s]; decide) ?_))))))))
      rw [ix_l 15 (by omega), x1.hs.1 15 (by omega)]; exact ok _ rfl
    · refine Wp_ifp (by decide) (Wp_ifp (by decide) (Wp_ifn (by decide) (Wp_ifp (by decide) (Wp_ifn (by decide) (Wp_ck a92 (Wp_bn (p92_35 s) (Wp_ck a116 (Wp_ck (by rw [k116 s]; decide) ?_))))))))
      rw [show ix (iv 9) = 9 from by decide, x1.nt 9 (by omega)]; exact ok _ rfl
    · refine Wp_ifp (by decide) (Wp_ifp (by decide) (Wp_ifn (by decide) (Wp_ifp (by decide) (Wp_ifn (by decide) (Wp_ck a92 (Wp_bn (p92_35 s) (Wp_ck a116 (Wp_ck (by rw [k116 s]; decide) ?_))))))))
      rw [show ix (iv 10) = 10 from by decide, x1.nt 10 (by omega)]; exact ok _ rfl
    · refine Wp_ifp (by decide) (Wp_ifp (by decide) (Wp_ifn (by decide) (Wp_ifp (by decide) (Wp_ifp (by decide) (Wp_ifp (by decide) (Wp_ck a92 (Wp_bn (p92_32 s) (Wp_ck (by rw [k113 s]) (Wp_ck (by rw [k113 s]; decide) ?_)))))))))
      rw [ixA0, x1.2.2.2.1.1]; exact ok _ rfl
    · refine Wp_ifp (by decide) (Wp_ifp (by decide) (Wp_ifn (by decide) (Wp_ifp (by decide) (Wp_ifp (by decide) (Wp_ifn (by decide) (Wp_ifp (by decide) (Wp_ck a92 ?_)))))))
      rw [x1.2.2.2.2.1.1]; exact ok _ rfl
    · refine Wp_ifp (by decide) (Wp_ifp (by decide) (Wp_ifn (by decide) (Wp_ifp (by decide) (Wp_ifp (by decide) (Wp_ifn (by decide) (Wp_ifn (by decide) (Wp_ifp (by decide) (Wp_ck a92 ?_))))))))
      rw [x1.1.2.2.2.1]; exact ok _ rfl
    · refine Wp_ifp (by decide) (Wp_ifp (by decide) (Wp_ifn (by decide) (Wp_ifp (by decide) (Wp_ifp (by decide) (Wp_ifn (by decide) (Wp_ifn (by decide) (Wp_ifn (by decide) (Wp_ck a92 (Wp_bn (p92_35 s) (Wp_ck a116 (Wp_ck (by rw [k116 s]; decide) ?_)))))))))))
      rw [ix_l 5 (by omega), x1.nt 5 (by omega)]; exact ok _ rfl
  · rw [decide_eq_false c]
    refine Wp_ifp (by decide) (AnsM.no x1 f1 ?_)
    unfold fCount
    rw [if_neg (by omega), if_neg (by omega), if_neg (by omega), if_neg (by omega), if_neg (by omega), if_neg (by omega), if_neg (by omega), if_neg (by omega), if_neg (by omega), if_neg (by omega), if_neg (by omega), if_neg (by omega), if_neg (by omega), if_neg (by omega), if_neg (by omega)]
end
