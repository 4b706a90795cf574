/-! THE PURE PROOFS, 83: the reference is asked: means, sureness, fence, readings, the best of many, counts. -/
section
variable {N : Nat} {g : Gs} {h : PH}
theorem meanR {z lf u : Int} (hN : 3000 ≤ N) (x : RestM g h) (k : GOK g) (hz : hbt g z) (hl : lf = 0 ∨ lf = 1) (hu : -1 ≤ u ∧ u ≤ 24) : Wp (Mo_nowMean N 92 (iv z) (iv u) (iv lf) h) (fun v h2 => v = iv (Fq (gsH g) (gsC g) (gE2 g) z lf u (gsN g 0) (gsN g 1) (gsN g 2) (gsN g 7)) ∧ RestM g h2 ∧ MFr h h2 ∧ hI h2 92 0 = hI h 92 0) := by
  refine Wp_mono (nowMeanM (by omega) k.1 k.2.2.1 ⟨x.s, x.hs, x.hab hN k, hz, hl, hu, EvE_ok (gsE g) (gsH g)⟩ x.nt) ?_
  rintro v h2 ⟨e, f⟩
  exact ⟨e, x.frV f⟩
theorem sureR {z : Int} (hN : 3000 ≤ N) (x : RestM g h) (k : GOK g) (hz : 1 ≤ z ∧ z ≤ 3) : Wp (Mo_surelyNow N 92 (iv z) h) (fun v h2 => v = iv (Sq (gsH g) (gsC g) z (gsN g 0) (gsN g 1) (gsN g 7)) ∧ RestM g h2 ∧ MFr h h2 ∧ RowT (gsH g) (Sq (gsH g) (gsC g) z (gsN g 0)) (gsN g 0) h2) := by
  refine Wp_mono (surelyM (by omega) k.1 k.2.2.1 ⟨x.s, x.hs, hz⟩ x.nt) ?_
  rintro v h2 ⟨e, f, r⟩
  exact ⟨e, (x.frV f).1, (x.frV f).2.1, r⟩
theorem fencR {m b : Int} (hN : 3000 ≤ N) (x : RestM g h) (k : GOK g) (hb : b = 0 ∨ b = 1) (hm : 0 ≤ m ∧ m ≤ 240) : Wp (Mo_fenceOf N 92 (iv m) (iv b) h) (fun v h2 => v = iv (Tq (gsH g) (gsC g) b (gsN g 0) m) ∧ RestM g h2 ∧ MFr h h2 ∧ hI h2 92 0 = hI h 92 0) := by
  refine Wp_mono (fenceOfM (by omega) k.1 k.2.2.1 x.s x.hs x.nt hb hm) ?_
  rintro v h2 ⟨e, f⟩
  exact ⟨e, x.frV f⟩
theorem n6M (x : RestM g h) : hI h 116 6 = iv (gsN g 6) := x.nt 6 (by omega)
theorem moMeanM {z : Int} (hN : 3000 ≤ N) (x : RestM g h) (k : GOK g) (hz : -2147483648 ≤ z ∧ z < 2147483648) : Wp (Mo_mean N 92 (iv z) h) (ThrM g h (hbt g z ∧ gsN g 6 = 0) (Fq (gsH g) (gsC g) (gE2 g) z 0 (gsH g 0) (gsN g 0) (gsN g 1) (gsN g 2) (gsN g 7))) := by
  have s := x.s
  have b := n_b k
  have no : ¬ (hbt g z ∧ gsN g 6 = 0) → Wp (Mo_mean_b23 N 92 92 (iv z) h) (ThrM g h (hbt g z ∧ gsN g 6 = 0) (Fq (gsH g) (gsC g) (gE2 g) z 0 (gsH g 0) (gsN g 0) (gsN g 1) (gsN g 2) (gsN g 7))) := by
    intro no
    unfold Mo_mean_b23 Mo_mean_b24
    refine Wp_ck (by rw [k92 s]) (Wp_lt (Wp_ck (by rw [hK_wI, k92 s]) (Wp_ifp (by rw [hI_wI, if_pos ⟨rfl, rfl⟩]) ?_)))
    exact ThrM.no x.t0 t0F (by rw [hI_wI, if_pos ⟨rfl, rfl⟩]; decide) no
  unfold Mo_mean
  rw [il0]
  refine Wp_ck (by rw [k92 s]) (Wp_bde (isHabM x k hz) ?_)
  by_cases o : hbt g z
  · rw [decide_eq_true o]
    refine Wp_ifn (by decide) (Wp_ck (by rw [k92 s]) (Wp_bn (p92_35 s) (Wp_ck (by rw [k116 s]) (Wp_ck (by rw [k116 s]; decide) ?_))))
    rw [ix_l 6 (by omega), n6M x]
    refine Wp_if (fun c => ?_) (fun c => ?_)
    · rw [iv_eq (by omega) (by omega) (by omega) (by omega)] at c
      unfold Mo_mean_b24
      rw [il0, im1]
      refine Wp_ck (by rw [k92 s]) (Wp_lt ?_)
      have x1 := x.t0 (v := iv 0)
      have f1 : MFr h (wI h 92 0 (iv 0)) := t0F
      have z0 : hI (wI h 92 0 (iv 0)) 92 0 = iv 0 := by rw [hI_wI, if_pos ⟨rfl, rfl⟩]
      generalize wI h 92 0 (iv 0) = h1 at x1 f1 z0 ⊢
      refine Wp_ck (by rw [k92 x1.s]) (Wp_ifn (by rw [z0]; decide) (Wp_bd2 (meanR hN x1 k o (Or.inl rfl) (by omega)) ?_))
      rintro v h2 ⟨e, y, f, e0⟩
      rw [Fq_never (gsH g 0 - gsN g 0).toNat (gsN g 0) _ _ _ b.1.1 (by omega)] at e
      exact Wp_ret ⟨Or.inl ⟨⟨o, c⟩, e, e0.trans z0⟩, y, f1.tr f⟩
    · rw [iv_eq (by omega) (by omega) (by omega) (by omega)] at c
      exact no (fun y => c y.2)
  · rw [decide_eq_false o]
    exact Wp_ifp (by decide) (no (fun y => o y.1))
theorem moLeftM {z : Int} (hN : 3000 ≤ N) (x : RestM g h) (k : GOK g) (hz : -2147483648 ≤ z ∧ z < 2147483648) : Wp (Mo_left N 92 (iv z) h) (ThrM g h (hbt g z ∧ gsN g 6 = 0) (Fq (gsH g) (gsC g) (gE2 g) z 1 (gsH g 0) (gsN g 0) (gsN g 1) (gsN g 2) (gsN g 7))) := by
  have s := x.s
  have b := n_b k
  have no : ¬ (hbt g z ∧ gsN g 6 = 0) → Wp (Mo_left_b23 N 92 92 (iv z) h) (ThrM g h (hbt g z ∧ gsN g 6 = 0) (Fq (gsH g) (gsC g) (gE2 g) z 1 (gsH g 0) (gsN g 0) (gsN g 1) (gsN g 2) (gsN g 7))) := by
    intro no
    unfold Mo_left_b23 Mo_left_b24
    refine Wp_ck (by rw [k92 s]) (Wp_lt (Wp_ck (by rw [hK_wI, k92 s]) (Wp_ifp (by rw [hI_wI, if_pos ⟨rfl, rfl⟩]) ?_)))
    exact ThrM.no x.t0 t0F (by rw [hI_wI, if_pos ⟨rfl, rfl⟩]; decide) no
  unfold Mo_left
  rw [il0]
  refine Wp_ck (by rw [k92 s]) (Wp_bde (isHabM x k hz) ?_)
  by_cases o : hbt g z
  · rw [decide_eq_true o]
    refine Wp_ifn (by decide) (Wp_ck (by rw [k92 s]) (Wp_bn (p92_35 s) (Wp_ck (by rw [k116 s]) (Wp_ck (by rw [k116 s]; decide) ?_))))
    rw [ix_l 6 (by omega), n6M x]
    refine Wp_if (fun c => ?_) (fun c => ?_)
    · rw [iv_eq (by omega) (by omega) (by omega) (by omega)] at c
      unfold Mo_left_b24
      rw [im1, il0, il1]
      refine Wp_ck (by rw [k92 s]) (Wp_lt ?_)
      have x1 := x.t0 (v := iv 0)
      have f1 : MFr h (wI h 92 0 (iv 0)) := t0F
      have z0 : hI (wI h 92 0 (iv 0)) 92 0 = iv 0 := by rw [hI_wI, if_pos ⟨rfl, rfl⟩]
      generalize wI h 92 0 (iv 0) = h1 at x1 f1 z0 ⊢
      refine Wp_ck (by rw [k92 x1.s]) (Wp_ifn (by rw [z0]; decide) (Wp_bd2 (meanR hN x1 k o (Or.inr rfl) (by omega)) ?_))
      rintro v h2 ⟨e, y, f, e0⟩
      rw [Fq_never (gsH g 0 - gsN g 0).toNat (gsN g 0) _ _ _ b.1.1 (by omega)] at e
      exact Wp_ret ⟨Or.inl ⟨⟨o, c⟩, e, e0.trans z0⟩, y, f1.tr f⟩
    · rw [iv_eq (by omega) (by omega) (by omega) (by omega)] at c
      exact no (fun y => c y.2)
  · rw [decide_eq_false o]
    exact Wp_ifp (by decide) (no (fun y => o y.1))
theorem moFenceM {z : Int} (hN : 3000 ≤ N) (x : RestM g h) (k : GOK g) (hz : -2147483648 ≤ z ∧ z < 2147483648) : Wp (Mo_fence N 92 (iv z) h) (ThrM g h (opn g ∧ 0 ≤ z ∧ z ≤ 120) (Tq (gsH g) (gsC g) 1 (gsN g 0) (gsN g 1 + z) - Tq (gsH g) (gsC g) 0 (gsN g 0) (gsN g 1) - Tq (gsH g) (gsC g) 0 (gsN g 0) z)) := by
  have s := x.s
  have b := n_b k
  have no : ¬ (opn g ∧ 0 ≤ z ∧ z ≤ 120) → Wp (Mo_fence_b22 N 92 92 (iv z) h) (ThrM g h (opn g ∧ 0 ≤ z ∧ z ≤ 120) (Tq (gsH g) (gsC g) 1 (gsN g 0) (gsN g 1 + z) - Tq (gsH g) (gsC g) 0 (gsN g 0) (gsN g 1) - Tq (gsH g) (gsC g) 0 (gsN g 0) z)) := by
    intro no
    unfold Mo_fence_b22 Mo_fence_b23
    refine Wp_ck (by rw [k92 s]) (Wp_lt (Wp_ck (by rw [hK_wI, k92 s]) (Wp_ifp (by rw [hI_wI, if_pos ⟨rfl, rfl⟩]) ?_)))
    exact ThrM.no x.t0 t0F (by rw [hI_wI, if_pos ⟨rfl, rfl⟩]; decide) no
  unfold Mo_fence
  rw [il0, il120]
  refine Wp_ck (by rw [k92 s]) (Wp_bde (isOnM x k) ?_)
  by_cases o : opn g
  · rw [decide_eq_true o]
    refine Wp_ifn (by decide) (Wp_bde (within_eq (by omega) (by omega) (by omega)) ?_)
    by_cases o2 : 0 ≤ z ∧ z ≤ 120
    · rw [decide_eq_true o2]
      refine Wp_ifn (by decide) ?_
      unfold Mo_fence_b23
      rw [il0, il1]
      refine Wp_ck (by rw [k92 s]) (Wp_lt ?_)
      have x1 := x.t0 (v := iv 0)
      have f1 : MFr h (wI h 92 0 (iv 0)) := t0F
      have z0 : hI (wI h 92 0 (iv 0)) 92 0 = iv 0 := by rw [hI_wI, if_pos ⟨rfl, rfl⟩]
      generalize wI h 92 0 (iv 0) = h1 at x1 f1 z0 ⊢
      have s1 := x1.s
      refine Wp_ck (by rw [k92 s1]) (Wp_ifn (by rw [z0]; decide) (Wp_bn (p92_35 s1) (Wp_ck (by rw [k116 s1]) (Wp_ck (by rw [k116 s1]; decide) ?_))))
      rw [ixA1, x1.nt 1 (by omega)]
      refine Wp_bd2 (fencR hN x1 k (Or.inl rfl) (by omega)) ?_
      rintro v h2 ⟨rfl, y, f, e0⟩
      refine Wp_ck (by rw [k92 y.s]) (Wp_bd2 (fencR hN y k (Or.inl rfl) (by omega)) ?_)
      rintro v h3 ⟨rfl, y3, f3, e3⟩
      have s3 := y3.s
      refine Wp_ck (by rw [k92 s3]) (Wp_bn (p92_35 s3) (Wp_ck (by rw [k116 s3]) (Wp_ck (by rw [k116 s3]; decide) ?_)))
      rw [y3.nt 1 (by omega), iv_add]
      refine Wp_bd2 (fencR hN y3 k (Or.inr rfl) (by omega)) ?_
      rintro v h4 ⟨rfl, y4, f4, e4⟩
      rw [iv_sub, iv_sub]
      exact Wp_ret ⟨Or.inl ⟨⟨o, o2⟩, rfl, e4.trans (e3.trans (e0.trans z0))⟩, y4, ((f1.tr f).tr f3).tr f4⟩
    · rw [decide_eq_false o2]
      exact Wp_ifp (by decide) (no (fun y => o2 y.2))
  · rw [decide_eq_false o]
    exact Wp_ifp (by decide) (no (fun y => o y.1))
theorem moSurelyM {z : Int} (hN : 3000 ≤ N) (x : RestM g h) (k : GOK g) (hz : -2147483648 ≤ z ∧ z < 2147483648) : Wp (Mo_surely N 92 (iv z) h) (AnsM g h (fSurely g z)) := by
  have s0 := x.s
  have b := n_b k
  unfold Mo_surely fSurely
  rw [im1, il0, il1, il3]
  refine Wp_ck (by rw [k92 s0]) (Wp_lt ?_)
  have x1 := x.t0 (v := iv 0)
  have f1 : MFr h (wI h 92 0 (iv 0)) := t0F
  generalize wI h 92 0 (iv 0) = h1 at x1 f1 ⊢
  have s1 := x1.s
  refine Wp_bde (within_eq (by omega) (by omega) (by omega)) ?_
  by_cases o : 1 ≤ z ∧ z ≤ 3
  · rw [decide_eq_true o]
    refine Wp_ifn (by decide) (Wp_ck (by rw [k92 s1]) (Wp_bn (p92_35 s1) (Wp_ck (by rw [k116 s1]) (Wp_ck (by rw [k116 s1]; decide) ?_))))
    rw [ix_l 6 (by omega), n6M x1]
    refine Wp_if (fun c => ?_) (fun c => ?_)
    · rw [iv_eq (by omega) (by omega) (by omega) (by omega)] at c
      rw [if_pos ⟨o, c⟩]
      refine Wp_bd2 (sureR hN x1 k o) ?_
      rintro v h2 ⟨rfl, y, f, -⟩
      exact Wp_ret ⟨rfl, y, f1.tr f⟩
    · rw [iv_eq (by omega) (by omega) (by omega) (by omega)] at c
      exact AnsM.no x1 f1 (if_neg (fun y => c y.2))
  · rw [decide_eq_false o]
    exact Wp_ifp (by decide) (AnsM.no x1 f1 (if_neg (fun y => o y.1)))
theorem moEnoughM {z m : Int} (hN : 3000 ≤ N) (x : RestM g h) (k : GOK g) (hz : -2147483648 ≤ z ∧ z < 2147483648) (hm : -2147483648 ≤ m ∧ m < 2147483648) : Wp (Mo_enough N 92 (iv z) (iv m) h) (AnsM g h (fEnough g z m)) := by
  have s0 := x.s
  have b := n_b k
  unfold Mo_enough fEnough
  rw [im1, il0, il1, il3, il1000000]
  refine Wp_ck (by rw [k92 s0]) (Wp_lt ?_)
  have x1 := x.t0 (v := iv 0)
  have f1 : MFr h (wI h 92 0 (iv 0)) := t0F
  generalize wI h 92 0 (iv 0) = h1 at x1 f1 ⊢
  have s1 := x1.s
  refine Wp_bde (within_eq (by omega) (by omega) (by omega)) ?_
  by_cases o : 1 ≤ z ∧ z ≤ 3
  · rw [decide_eq_true o]
    refine Wp_ifn (by decide) (Wp_bde (within_eq (by omega) (by omega) (by omega)) ?_)
    by_cases o2 : 0 ≤ m ∧ m ≤ 1000000
    · rw [decide_eq_true o2]
      refine Wp_ifn (by decide) (Wp_ck (by rw [k92 s1]) (Wp_bn (p92_35 s1) (Wp_ck (by rw [k116 s1]) (Wp_ck (by rw [k116 s1]; decide) ?_))))
      rw [ix_l 6 (by omega), n6M x1]
      refine Wp_if (fun c => ?_) (fun c => ?_)
      · rw [iv_eq (by omega) (by omega) (by omega) (by omega)] at c
        exact AnsM.no x1 f1 (if_neg (fun y => by omega))
      · rw [iv_eq (by omega) (by omega) (by omega) (by omega)] at c
        rw [if_pos ⟨o, o2, by omega⟩]
        refine Wp_bd2 (sureR hN x1 k o) ?_
        rintro v h2 ⟨-, y, f, r⟩
        exact Wp_bde_id (enoughM (by omega) k.1 k.2.2.1 ⟨y.s, y.hs, o⟩ y.nt o2 r) ⟨rfl, y, f1.tr f⟩
    · rw [decide_eq_false o2]
      exact Wp_ifp (by decide) (AnsM.no x1 f1 (if_neg (fun y => o2 y.2.1)))
  · rw [decide_eq_false o]
    exact Wp_ifp (by decide) (AnsM.no x1 f1 (if_neg (fun y => o y.1)))
theorem moMostM {m : Int} (hN : 3000 ≤ N) (x : RestM g h) (k : GOK g) (hm : -2147483648 ≤ m ∧ m < 2147483648) : Wp (Mo_most N 92 (iv m) h) (AnsM g h (fMost g m)) := by
  have s0 := x.s
  have b := n_b k
  unfold Mo_most fMost
  rw [im1, il0, il1, il3, il1000000]
  refine Wp_ck (by rw [k92 s0]) (Wp_lt ?_)
  have x1 := x.t0 (v := iv 0)
  have f1 : MFr h (wI h 92 0 (iv 0)) := t0F
  generalize wI h 92 0 (iv 0) = h1 at x1 f1 ⊢
  have s1 := x1.s
  refine Wp_bde (within_eq (by omega) (by omega) (by omega)) ?_
  by_cases o : 0 ≤ m ∧ m ≤ 1000000
  · rw [decide_eq_true o]
    refine Wp_ifn (by decide) (Wp_ck (by rw [k92 s1]) (Wp_bn (p92_35 s1) (Wp_ck (by rw [k116 s1]) (Wp_ck (by rw [k116 s1]; decide) ?_))))
    rw [ix_l 6 (by omega), n6M x1]
    refine Wp_if (fun c => ?_) (fun c => ?_)
    · rw [iv_eq (by omega) (by omega) (by omega) (by omega)] at c
      exact AnsM.no x1 f1 (if_neg (fun y => by omega))
    · rw [iv_eq (by omega) (by omega) (by omega) (by omega)] at c
      rw [if_pos ⟨o, by omega⟩]
      have key : ∀ (n : Nat) (h2 : PH), n ≤ 3 → RestM g h2 → MFr h h2 → ∀ fuel, n < fuel → Wp (Mo_most_b31 N fuel 92 (iv m) (iv n) h2) (AnsM g h (mstF (fun z => Sq (gsH g) (gsC g) z (gsN g 0) (gsN g 1) (gsN g 7)) m n)) := by
        intro n
        induction n with
        | zero =>
          intro h2 _ x2 f2 fuel hf
          obtain ⟨fu, rfl⟩ : ∃ e, fuel = e + 1 := ⟨fuel - 1, by omega⟩
          rw [Mo_most_b31, im1]
          exact Wp_ifp (by decide) (Wp_ret ⟨rfl, x2, f2⟩)
        | succ n ih =>
          intro h2 h3 x2 f2 fuel hf
          obtain ⟨fu, rfl⟩ : ∃ e, fuel = e + 1 := ⟨fuel - 1, by omega⟩
          have s2 := x2.s
          rw [Mo_most_b31, il0, show (-1 : Int32) = iv (-1) from im1]
          refine Wp_ifn (by rw [iv_le (by omega) (by omega) (by omega) (by omega)]; omega) (Wp_ck (by rw [k92 s2]) (Wp_bd2 (sureR hN x2 k (z := ((n + 1 : Nat) : Int)) (by omega)) ?_))
          rintro v h4 ⟨rfl, y, f, -⟩
          have sb := Sq_n k (z := ((n + 1 : Nat) : Int)) (by omega)
          rw [mstF]
          refine Wp_if (fun c => ?_) (fun c => ?_)
          · rw [iv_lt (by omega) (by omega) (by omega) (by omega)] at c
            rw [if_pos (show Sq (gsH g) (gsC g) ((n : Int) + 1) (gsN g 0) (gsN g 1) (gsN g 7) < m from c), iv_add, show ((n + 1 : Nat) : Int) + -1 = (n : Int) from by omega]
            exact ih h4 (by omega) y (f2.tr f) fu (by omega)
          · rw [iv_lt (by omega) (by omega) (by omega) (by omega)] at c
            rw [if_neg (show ¬ Sq (gsH g) (gsC g) ((n : Int) + 1) (gsN g 0) (gsN g 1) (gsN g 7) < m from c)]
            exact Wp_ret ⟨rfl, y, f2.tr f⟩
      exact key 3 h1 (by omega) x1 f1 N (by omega)
  · rw [decide_eq_false o]
    exact Wp_ifp (by decide) (AnsM.no x1 f1 (if_neg (fun y => o y.1)))
theorem moReadM {z q t w : Int} (hN : 24000 ≤ N) (x : RestM g h) (k : GOK g) (hz : -2147483648 ≤ z ∧ z < 2147483648) (hq : -2147483648 ≤ q ∧ q < 2147483648) (ht : -2147483648 ≤ t ∧ t < 2147483648) (hw : -2147483648 ≤ w ∧ w < 2147483648) : Wp (Mo_read N 92 (iv z) (iv q) (iv t) (iv w) h) (AnsM g h (fRead g z q t w)) := by
  have s0 := x.s
  have b := n_b k
  unfold Mo_read fRead
  rw [im1, il0, il1, il120]
  refine Wp_ck (by rw [k92 s0]) (Wp_lt ?_)
  have x1 := x.t0 (v := iv 0)
  have f1 : MFr h (wI h 92 0 (iv 0)) := t0F
  generalize wI h 92 0 (iv 0) = h1 at x1 f1 ⊢
  have s1 := x1.s
  refine Wp_bde (isHabM x1 k hz) ?_
  by_cases o : hbt g z
  · rw [decide_eq_true o]
    refine Wp_ifn (by decide) (Wp_ck (by rw [k92 s1]) (Wp_bn (p92_10 s1) (Wp_ck (by rw [k94 s1]) (Wp_ck (by rw [k94 s1]; decide) ?_))))
    rw [ixA0, x1.hs.1 0 (by omega)]
    refine Wp_bde (within_eq (by omega) (by omega) (by omega)) ?_
    by_cases o2 : 0 ≤ q ∧ q ≤ gsH g 0
    · rw [decide_eq_true o2]
      refine Wp_ifn (by decide) (Wp_bde (within_eq (by omega) (by omega) (by omega)) ?_)
      by_cases o3 : 0 ≤ t ∧ t ≤ 120
      · rw [decide_eq_true o3]
        refine Wp_ifn (by decide) (Wp_bde (within_eq (by omega) (by omega) (by omega)) ?_)
        by_cases o4 : 0 ≤ w ∧ w ≤ 1
        · rw [decide_eq_true o4, if_pos (show hbt g z ∧ (0 ≤ q ∧ q ≤ gsH g 0) ∧ (0 ≤ t ∧ t ≤ 120) ∧ 0 ≤ w ∧ w ≤ 1 from ⟨o, o2, o3, o4⟩)]
          refine Wp_ifn (by decide) ?_
          have rd := readM (N := N) (Qn := q.toNat) (t := t.toNat) (what := w) hN k.1 ⟨x1.s, x1.hs, x1.hab (by omega) k, o, EvE_ok (gsE g) (gsH g)⟩ (by omega) (by omega) (by omega)
          rw [show ((q.toNat : Nat) : Int) = q from by omega, show ((t.toNat : Nat) : Int) = t from by omega] at rd
          refine Wp_mono rd ?_
          rintro v h2 ⟨rfl, f⟩
          have y := x1.frR f.1 (fun b _ => by rw [f.2.1]) f.2.2
          exact ⟨rfl, y.1, f1.tr y.2.1⟩
        · rw [decide_eq_false o4]
          exact Wp_ifp (by decide) (AnsM.no x1 f1 (if_neg (fun y => o4 y.2.2.2)))
      · rw [decide_eq_false o3]
        exact Wp_ifp (by decide) (AnsM.no x1 f1 (if_neg (fun y => o3 y.2.2.1)))
    · rw [decide_eq_false o2]
      exact Wp_ifp (by decide) (AnsM.no x1 f1 (if_neg (fun y => o2 y.2.1)))
  · rw [decide_eq_false o]
    exact Wp_ifp (by decide) (AnsM.no x1 f1 (if_neg (fun y => o y.1)))
end
