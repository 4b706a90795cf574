/-! THE PURE PROOFS, 76: the class is asked: the calls that change nothing. -/
theorem im1 : (-1 : Int32) = iv (-1) := by decide
theorem toZ (x : Int32) : ∃ z : Int, x = iv z ∧ -2147483648 ≤ z ∧ z < 2147483648 := ⟨x.toInt, (iv_of x).symm, Int32.le_toInt x, Int32.toInt_lt x⟩
/-- asked: the answer, all as it was -/
def AnsL (c : Nat) (g : Gs) (h : PH) (w : Int) (v : Int32) (h2 : PH) : Prop := v = iv w ∧ LeI (c + 64) g h2 ∧ CFr h h2
def AnsT (c : Nat) (g : Gs) (h : PH) (ok : Prop) (w : Int) (v : Option Int32) (h2 : PH) : Prop := ((ok ∧ v = some (iv w)) ∨ (¬ ok ∧ v = none)) ∧ LeI (c + 64) g h2 ∧ CFr h h2
section
variable {N c : Nat} {g : Gs} {h : PH}
theorem AnsL.no {w : Int} (x : LeI c g h) (e : w = -1) : Wp (some (iv (-1), h)) (AnsL c g h w) := Wp_ret ⟨by rw [e], x.mono (by omega), CFr.rf⟩
theorem AnsT.no {ok : Prop} {w : Int} (x : LeI c g h) (e : ¬ ok) : Wp (some ((none : Option Int32), tw h)) (AnsT c g h ok w) := Wp_ret ⟨Or.inr ⟨e, rfl⟩, (x.thr).1.mono (by omega), (x.thr).2⟩
theorem n_b (k : GOK g) : (0 ≤ gsN g 0 ∧ gsN g 0 ≤ gsH g 0) ∧ (0 ≤ gsN g 1 ∧ gsN g 1 ≤ gsH g 1) ∧ (0 ≤ gsN g 2 ∧ gsN g 2 ≤ gsH g 2) ∧ (gsN g 7 = 0 ∨ gsN g 7 = 1) ∧ (gsN g 6 = 0 ∨ gsN g 6 = 1) ∧ (1 ≤ gsH g 0 ∧ gsH g 0 ≤ 24) ∧ (0 ≤ gsH g 1 ∧ gsH g 1 ≤ 120) ∧ (0 ≤ gsH g 2 ∧ gsH g 2 ≤ 12) ∧ (0 ≤ gsH g 15 ∧ gsH g 15 ≤ 4) := ⟨k.2.2.1.1, k.2.2.1.2.1, k.2.2.1.2.2.1, k.2.2.1.2.2.2.2.2.2.2.1, k.2.2.1.2.2.2.2.2.2.1, k.1.1, k.1.2.1, k.1.2.2.1, k.1.2.2.2.2.2.2.2.2.2.2.2.2.2.2.2.1⟩
theorem LeI.w7 (x : LeI c g h) (k : GOK g) : bI (hZ h 32 12) = iv (gsN g 7) := by
  rw [x.nt.2.2.2.2.2.2.2.2.2.2.2.2.1]
  exact bI_w (n_b k).2.2.2.1
theorem LeI.f0 (x : LeI c g h) : hI h 32 0 = iv (gsN g 0) ∧ hI h 32 1 = iv (gsN g 1) ∧ hI h 32 2 = iv (gsN g 2) ∧ hI h 32 4 = iv (gsN g 13) ∧ hI h 32 5 = iv (gsN g 11) ∧ hZ h 32 10 = decide (gsN g 6 = 0) := ⟨x.nt.1, x.nt.2.1, x.nt.2.2.1, x.nt.2.2.2.2.1, x.nt.2.2.2.2.2.1, x.nt.2.2.2.2.2.2.2.2.2.2.1⟩
theorem LeI.g0 (x : LeI c g h) : hI h 10 0 = iv (gsH g 0) ∧ hI h 10 1 = iv (gsH g 1) ∧ hI h 10 2 = iv (gsH g 2) ∧ hI h 10 12 = iv (gsH g 15) := ⟨x.hs.1, x.hs.2.1, x.hs.2.2.1, x.hs.2.2.2.2.2.2.2.2.2.2.2.2.1⟩
def fCalls (g : Gs) (q m : Int) : Int := if (0 ≤ q ∧ q < gsH g 0) ∧ 0 ≤ m ∧ m ≤ 3 then cw (gsC g) 0 q m else -1
theorem leCallsL {q m : Int} (x : LeI c g h) (k : GOK g) (hq : -2147483648 ≤ q ∧ q < 2147483648) (hm : -2147483648 ≤ m ∧ m < 2147483648) : Wp (Le_calls N 6 (iv q) (iv m) h) (AnsL c g h (fCalls g q m)) := by
  have s := x.s
  have b := n_b k
  unfold Le_calls fCalls
  rw [im1, il0, il3]
  refine Wp_if (fun c => ?_) (fun c => ?_)
  · rw [iv_lt (by omega) (by omega) (by omega) (by omega)] at c
    exact AnsL.no x (if_neg (by omega))
  rw [iv_lt (by omega) (by omega) (by omega) (by omega)] at c
  refine Wp_ck (by rw [k6 s]) (Wp_bn (p6_1 s) (Wp_ck (by rw [k10 s]) ?_))
  rw [x.g0.1]
  refine Wp_if (fun c => ?_) (fun c => ?_)
  · rw [iv_le (by omega) (by omega) (by omega) (by omega)] at c
    exact AnsL.no x (if_neg (by omega))
  rw [iv_le (by omega) (by omega) (by omega) (by omega)] at c
  refine Wp_if (fun c => ?_) (fun c => ?_)
  · rw [iv_lt (by omega) (by omega) (by omega) (by omega)] at c
    exact AnsL.no x (if_neg (by omega))
  rw [iv_lt (by omega) (by omega) (by omega) (by omega)] at c
  refine Wp_if (fun c => ?_) (fun c => ?_)
  · rw [iv_le (by omega) (by omega) (by omega) (by omega)] at c
    refine Wp_bde (chL_eq s x.hs (Or.inl rfl) (by omega) (by omega)) (Wp_ret ⟨?_, x.mono (by omega), CFr.rf⟩)
    rw [if_pos (by omega)]
  · rw [iv_le (by omega) (by omega) (by omega) (by omega)] at c
    exact AnsL.no x (if_neg (by omega))
def fBest (g : Gs) (z : Int) : Int := if opn g ∧ 1 ≤ z ∧ z ≤ 4 then bgv (gsH g) 0 (Vq (gsH g) (gsC g) 0 0 (gsN g 0 + 1)) (gsN g 0) z (gsN g 1) (gsN g 2) else -1
theorem leBestL {z : Int} (hN : 24000 ≤ N) (x : LeI c g h) (k : GOK g) (hz : -2147483648 ≤ z ∧ z < 2147483648) : Wp (Le_best N 6 (iv z) h) (AnsL c g h (fBest g z)) := by
  have s := x.s
  have b := n_b k
  unfold Le_best fBest
  rw [im1, il1, il4]
  refine Wp_if (fun c => ?_) (fun c => ?_)
  · rw [iv_lt (by omega) (by omega) (by omega) (by omega)] at c
    exact AnsL.no x (if_neg (fun y => by have := y.2; omega))
  rw [iv_lt (by omega) (by omega) (by omega) (by omega)] at c
  refine Wp_if (fun c => ?_) (fun c => ?_)
  · rw [iv_lt (by omega) (by omega) (by omega) (by omega)] at c
    exact AnsL.no x (if_neg (fun y => by have := y.2; omega))
  rw [iv_lt (by omega) (by omega) (by omega) (by omega)] at c
  refine Wp_ck (by rw [k6 s]) (Wp_bde (isOpenL x k) ?_)
  simp only [bI_0]
  by_cases o : opn g
  · rw [decide_eq_true o, if_pos (show opn g ∧ 1 ≤ z ∧ z ≤ 4 from ⟨o, by omega⟩)]
    refine Wp_ifn (by decide) (Wp_ck (by rw [k6 s]) (Wp_bn (p6_6 s) (Wp_ck (by rw [k32 s]) (Wp_bn (p6_12 s) (Wp_ck (by rw [k36 s]) ?_)))))
    rw [x.f0.1, x.f0.2.1, x.f0.2.2.1]
    have o1 := o.1
    refine Wp_bd2 (bestG0L hN x k (by omega) b.2.1 b.2.2.1 (by omega)) ?_
    rintro v h2 ⟨rfl, y, f⟩
    exact Wp_ret ⟨rfl, y.mono (by omega), f⟩
  · rw [decide_eq_false o]
    exact Wp_ifp rfl (AnsL.no x (if_neg (fun y => o y.1)))
def fStay (g : Gs) : Int := if opn g then (if lit (gsH g) (gsC g) 0 0 (Vq (gsH g) (gsC g) 0 0 (gsN g 0 + 1)) (gsN g 0) (gsN g 1) (gsN g 2) (gsN g 7) < off0 (gsH g) (gsN g 0) (gsN g 1) then 0 else 1) else -1
theorem lit_n (k : GOK g) (o : opn g) : -30000000 ≤ lit (gsH g) (gsC g) 0 0 (Vq (gsH g) (gsC g) 0 0 (gsN g 0 + 1)) (gsN g 0) (gsN g 1) (gsN g 2) (gsN g 7) ∧ lit (gsH g) (gsC g) 0 0 (Vq (gsH g) (gsC g) 0 0 (gsN g 0 + 1)) (gsN g 0) (gsN g 1) (gsN g 2) (gsN g 7) ≤ 30000000 := by
  have b := n_b k
  have o1 := o.1
  have z := (lit_b k.1 (wet := 0) (mute := 0) (Vq_bd k.1 0 0 (q := gsN g 0 + 1) (by omega)) (q := gsN g 0) (t := gsN g 1) (a := gsN g 2) (w := gsN g 7) (by omega) b.2.1 b.2.2.1 b.2.2.2.1).2
  omega
theorem leStayL (hN : 24000 ≤ N) (x : LeI c g h) (k : GOK g) : Wp (Le_stay N 6 h) (AnsL c g h (fStay g)) := by
  have s := x.s
  have b := n_b k
  unfold Le_stay fStay
  rw [im1]
  refine Wp_ck (by rw [k6 s]) (Wp_bde (isOpenL x k) ?_)
  simp only [bI_0]
  by_cases o : opn g
  · rw [decide_eq_true o, if_pos o]
    have o1 := o.1
    refine Wp_ifn (by decide) (Wp_ck (by rw [k6 s]) (Wp_bn (p6_6 s) (Wp_ck (by rw [k32 s]) (Wp_bn (p6_12 s) (Wp_ck (by rw [k36 s]) ?_)))))
    rw [x.f0.1, x.f0.2.1, x.f0.2.2.1, x.w7 k]
    refine Wp_bd2 (lit0L hN x k (by omega) b.2.1 b.2.2.1 b.2.2.2.1) ?_
    rintro v h2 ⟨rfl, y, f⟩
    have s2 := y.s
    refine Wp_ck (by rw [k6 s2]) (Wp_bn (p6_6 s2) (Wp_ck (by rw [k32 s2]) (Wp_bn (p6_1 s2) (Wp_ck (by rw [k10 s2]) ?_))))
    rw [y.f0.1, y.f0.2.1]
    refine Wp_bde (off_eq s2 y.hs) ?_
    have l := lit_n k o
    have ob := off0_b k.1 (q := gsN g 0) (t := gsN g 1) (by omega) (by omega)
    refine Wp_if (fun c => ?_) (fun c => ?_)
    · rw [iv_lt (by omega) (by omega) (by omega) (by omega)] at c
      rw [if_pos c]
      exact Wp_ret ⟨il0, y.mono (by omega), f⟩
    · rw [iv_lt (by omega) (by omega) (by omega) (by omega)] at c
      rw [if_neg c]
      exact Wp_ret ⟨il1, y.mono (by omega), f⟩
  · rw [decide_eq_false o]
    exact Wp_ifp rfl (AnsL.no x (if_neg o))
def okValue (g : Gs) (q t a : Int) : Prop := (0 ≤ q ∧ q ≤ gsH g 0) ∧ (0 ≤ t ∧ t ≤ gsH g 1) ∧ 0 ≤ a ∧ a ≤ gsH g 2
theorem leValueL {q t a w : Int} (hN : 24000 ≤ N) (x : LeI c g h) (k : GOK g) (hq : -2147483648 ≤ q ∧ q < 2147483648) (ht : -2147483648 ≤ t ∧ t < 2147483648) (ha : -2147483648 ≤ a ∧ a < 2147483648) (hw : w = 0 ∨ w = 1) : Wp (Le_value N 6 (iv q) (iv t) (iv a) (iv w) h) (AnsT c g h (okValue g q t a) (Vq (gsH g) (gsC g) 0 0 q t a w)) := by
  have s := x.s
  have b := n_b k
  unfold Le_value Le_value_b45 okValue
  rw [il0]
  refine Wp_if (fun c => ?_) (fun c => ?_)
  · rw [iv_lt (by omega) (by omega) (by omega) (by omega)] at c
    exact AnsT.no x (by omega)
  rw [iv_lt (by omega) (by omega) (by omega) (by omega)] at c
  refine Wp_ck (by rw [k6 s]) (Wp_bn (p6_1 s) (Wp_ck (by rw [k10 s]) ?_))
  rw [x.g0.1, x.g0.2.1, x.g0.2.2.1]
  refine Wp_if (fun c => ?_) (fun c => ?_)
  · rw [iv_lt (by omega) (by omega) (by omega) (by omega)] at c
    exact AnsT.no x (by omega)
  rw [iv_lt (by omega) (by omega) (by omega) (by omega)] at c
  refine Wp_if (fun c => ?_) (fun c => ?_)
  · rw [iv_lt (by omega) (by omega) (by omega) (by omega)] at c
    exact AnsT.no x (by omega)
  rw [iv_lt (by omega) (by omega) (by omega) (by omega)] at c
  refine Wp_if (fun c => ?_) (fun c => ?_)
  · rw [iv_lt (by omega) (by omega) (by omega) (by omega)] at c
    exact AnsT.no x (by omega)
  rw [iv_lt (by omega) (by omega) (by omega) (by omega)] at c
  refine Wp_if (fun c => ?_) (fun c => ?_)
  · rw [iv_lt (by omega) (by omega) (by omega) (by omega)] at c
    exact AnsT.no x (by omega)
  rw [iv_lt (by omega) (by omega) (by omega) (by omega)] at c
  refine Wp_if (fun c => ?_) (fun c => ?_)
  · rw [iv_le (by omega) (by omega) (by omega) (by omega)] at c
    refine Wp_bn (p6_12 s) (Wp_ck (by rw [k36 s]) (Wp_bd2 (worth0L hN x k (by omega) (by omega) (by omega) hw) ?_))
    rintro v h2 ⟨rfl, y, f⟩
    exact Wp_ret ⟨Or.inl ⟨by omega, rfl⟩, y.mono (by omega), f⟩
  · rw [iv_le (by omega) (by omega) (by omega) (by omega)] at c
    exact AnsT.no x (by omega)
theorem leMayL {z : Int} (hN : 24000 ≤ N) (x : LeI c g h) (k : GOK g) (hz : -2147483648 ≤ z ∧ z < 2147483648) : Wp (Le_may N 6 (iv z) h) (AnsT c g h (opn g ∧ 0 ≤ z ∧ z ≤ 4) (gr (gsH g) 0 (Vq (gsH g) (gsC g) 0 0 (gsN g 0 + 1)) (gsN g 0) z (gsN g 1) (gsN g 2))) := by
  have s := x.s
  have b := n_b k
  unfold Le_may Le_may_b16
  rw [il0, il4]
  refine Wp_if (fun c => ?_) (fun c => ?_)
  · rw [iv_lt (by omega) (by omega) (by omega) (by omega)] at c
    exact AnsT.no x (fun y => by have := y.2; omega)
  rw [iv_lt (by omega) (by omega) (by omega) (by omega)] at c
  refine Wp_if (fun c => ?_) (fun c => ?_)
  · rw [iv_lt (by omega) (by omega) (by omega) (by omega)] at c
    exact AnsT.no x (fun y => by have := y.2; omega)
  rw [iv_lt (by omega) (by omega) (by omega) (by omega)] at c
  refine Wp_ck (by rw [k6 s]) (Wp_bde (isOpenL x k) ?_)
  by_cases o : opn g
  · rw [decide_eq_true o]
    have o1 := o.1
    refine Wp_ifn (by decide) (Wp_ck (by rw [k6 s]) (Wp_bn (p6_6 s) (Wp_ck (by rw [k32 s]) (Wp_bn (p6_12 s) (Wp_ck (by rw [k36 s]) ?_)))))
    rw [x.f0.1, x.f0.2.1, x.f0.2.2.1]
    refine Wp_bd2 (bestW0L hN x k (by omega) b.2.1 b.2.2.1 (by omega)) ?_
    rintro v h2 ⟨rfl, y, f⟩
    exact Wp_ret ⟨Or.inl ⟨⟨o, by omega⟩, rfl⟩, y.mono (by omega), f⟩
  · rw [decide_eq_false o]
    exact Wp_ifp rfl (AnsT.no x (fun y => o y.1))
theorem leMeanL {z : Int} (hN : 24000 ≤ N) (hc : c ≤ 90000) (x : LeI c g h) (k : GOK g) (hz : -2147483648 ≤ z ∧ z < 2147483648) : Wp (Le_mean N 6 (iv z) h) (AnsT c g h (hbt g z ∧ gsN g 6 = 0) (Fq (gsH g) (gsC g) (gE2 g) z 0 (gsH g 0) (gsN g 0) (gsN g 1) (gsN g 2) (gsN g 7))) := by
  have s := x.s
  have b := n_b k
  unfold Le_mean Le_mean_b18
  refine Wp_ck (by rw [k6 s]) (Wp_bde (hasHabitL x k hz) ?_)
  by_cases o : hbt g z
  · rw [decide_eq_true o]
    refine Wp_ifn (by decide) (Wp_ck (by rw [k6 s]) (Wp_bn (p6_6 s) (Wp_ck (by rw [k32 s]) ?_)))
    rw [x.f0.2.2.2.2.2]
    by_cases d : gsN g 6 = 0
    · rw [decide_eq_true d]
      refine Wp_ifn (by decide) (Wp_bn (p6_1 s) (Wp_ck (by rw [k10 s]) (Wp_bn (p6_15 s) (Wp_ck (by rw [k45 s]) ?_))))
      rw [x.g0.1, p6_6 s]
      refine Wp_bd2 (meanWL hN (by omega) x k o (by omega)) ?_
      rintro v h2 ⟨rfl, y, f⟩
      exact Wp_ret ⟨Or.inl ⟨⟨o, d⟩, rfl⟩, y.mono (by omega), f⟩
    · rw [decide_eq_false d]
      exact Wp_ifp rfl (AnsT.no x (fun y => d y.2))
  · rw [decide_eq_false o]
    exact Wp_ifp rfl (AnsT.no x (fun y => o y.1))
theorem leLeftL {z : Int} (hN : 24000 ≤ N) (hc : c ≤ 90000) (x : LeI c g h) (k : GOK g) (hz : -2147483648 ≤ z ∧ z < 2147483648) : Wp (Le_left N 6 (iv z) h) (AnsT c g h (hbt g z ∧ gsN g 6 = 0) (Fq (gsH g) (gsC g) (gE2 g) z 1 (gsH g 0) (gsN g 0) (gsN g 1) (gsN g 2) (gsN g 7))) := by
  have s := x.s
  have b := n_b k
  unfold Le_left Le_left_b18
  refine Wp_ck (by rw [k6 s]) (Wp_bde (hasHabitL x k hz) ?_)
  by_cases o : hbt g z
  · rw [decide_eq_true o]
    refine Wp_ifn (by decide) (Wp_ck (by rw [k6 s]) (Wp_bn (p6_6 s) (Wp_ck (by rw [k32 s]) ?_)))
    rw [x.f0.2.2.2.2.2]
    by_cases d : gsN g 6 = 0
    · rw [decide_eq_true d]
      refine Wp_ifn (by decide) (Wp_bn (p6_15 s) (Wp_ck (by rw [k45 s]) ?_))
      rw [p6_6 s]
      refine Wp_bd2 (leftWL hN (by omega) x k o) ?_
      rintro v h2 ⟨rfl, y, f⟩
      exact Wp_ret ⟨Or.inl ⟨⟨o, d⟩, rfl⟩, y.mono (by omega), f⟩
    · rw [decide_eq_false d]
      exact Wp_ifp rfl (AnsT.no x (fun y => d y.2))
  · rw [decide_eq_false o]
    exact Wp_ifp rfl (AnsT.no x (fun y => o y.1))
theorem leTalkL (hN : 24000 ≤ N) (x : LeI c g h) (k : GOK g) : Wp (Le_talk N 6 h) (AnsT c g h (opn g) (Vq (gsH g) (gsC g) 0 0 (gsN g 0) (gsN g 1) (gsN g 2) (gsN g 7) - Vq (gsH g) (gsC g) 0 1 (gsN g 0) (gsN g 1) (gsN g 2) 0)) := by
  have s := x.s
  have b := n_b k
  unfold Le_talk
  refine Wp_ck (by rw [k6 s]) (Wp_bde (isOpenL x k) ?_)
  by_cases o : opn g
  · rw [decide_eq_true o]
    refine Wp_ifn (by decide) (Wp_ck (by rw [k6 s]) (Wp_bn (p6_6 s) (Wp_ck (by rw [k32 s]) (Wp_bn (p6_12 s) (Wp_ck (by rw [k36 s]) ?_)))))
    rw [x.f0.1, x.f0.2.1, x.f0.2.2.1, x.w7 k]
    refine Wp_bd2 (worth0L hN x k b.1 b.2.1 b.2.2.1 b.2.2.2.1) ?_
    rintro v h2 ⟨rfl, y, f⟩
    have s2 := y.s
    refine Wp_ck (by rw [k6 s2]) (Wp_bn (p6_6 s2) (Wp_ck (by rw [k32 s2]) (Wp_bn (p6_14 s2) (Wp_ck (by rw [k42 s2]) ?_))))
    rw [y.f0.1, y.f0.2.1, y.f0.2.2.1, il0]
    refine Wp_bd2 (worth2L hN y k b.1 b.2.1 b.2.2.1 (Or.inl rfl)) ?_
    rintro v h3 ⟨rfl, z, f3⟩
    exact Wp_ret ⟨Or.inl ⟨o, by rw [iv_sub]⟩, z.mono (by omega), f.tr f3⟩
  · rw [decide_eq_false o]
    exact Wp_ifp rfl (AnsT.no x o)
theorem leFenceL {z : Int} (hN : 24000 ≤ N) (x : LeI c g h) (k : GOK g) (hz : -2147483648 ≤ z ∧ z < 2147483648) : Wp (Le_fence N 6 (iv z) h) (AnsT c g h (opn g ∧ 0 ≤ z ∧ z ≤ 120) (Tq (gsH g) (gsC g) 1 (gsN g 0) (gsN g 1 + z) - Tq (gsH g) (gsC g) 0 (gsN g 0) (gsN g 1) - Tq (gsH g) (gsC g) 0 (gsN g 0) z)) := by
  have s := x.s
  have b := n_b k
  unfold Le_fence Le_fence_b17
  rw [il0, il120]
  refine Wp_if (fun c => ?_) (fun c => ?_)
  · rw [iv_lt (by omega) (by omega) (by omega) (by omega)] at c
    exact AnsT.no x (fun y => by have := y.2; omega)
  rw [iv_lt (by omega) (by omega) (by omega) (by omega)] at c
  refine Wp_if (fun c => ?_) (fun c => ?_)
  · rw [iv_lt (by omega) (by omega) (by omega) (by omega)] at c
    exact AnsT.no x (fun y => by have := y.2; omega)
  rw [iv_lt (by omega) (by omega) (by omega) (by omega)] at c
  refine Wp_ck (by rw [k6 s]) (Wp_bde (isOpenL x k) ?_)
  by_cases o : opn g
  · rw [decide_eq_true o]
    refine Wp_ifn (by decide) (Wp_ck (by rw [k6 s]) (Wp_bn (p6_6 s) (Wp_ck (by rw [k32 s]) (Wp_bn (p6_17 s) (Wp_ck (by rw [k52 s]) ?_)))))
    rw [x.f0.1, x.f0.2.1]
    refine Wp_bd2 (fenceWL hN x k b.1 (by omega) (by omega)) ?_
    rintro v h2 ⟨rfl, y, f⟩
    exact Wp_ret ⟨Or.inl ⟨⟨o, by omega⟩, rfl⟩, y.mono (by omega), f⟩
  · rw [decide_eq_false o]
    exact Wp_ifp rfl (AnsT.no x (fun y => o y.1))
theorem leRainsL (x : LeI c g h) : Wp (Le_rains N 6 h) (AnsL c g h (gsN g 13)) := by
  have s := x.s
  unfold Le_rains
  refine Wp_ck (by rw [k6 s]) (Wp_bn (p6_6 s) (Wp_ck (by rw [k32 s]) (Wp_ret ⟨x.f0.2.2.2.1, x.mono (by omega), CFr.rf⟩)))
theorem leScoreL (x : LeI c g h) : Wp (Le_score N 6 h) (AnsL c g h (gsN g 11)) := by
  have s := x.s
  unfold Le_score
  refine Wp_ck (by rw [k6 s]) (Wp_bn (p6_6 s) (Wp_ck (by rw [k32 s]) (Wp_ret ⟨x.f0.2.2.2.2.1, x.mono (by omega), CFr.rf⟩)))
def fTonight (g : Gs) : Int := (Vq (gsH g) (gsC g) 1 0 (gsN g 0) (gsN g 1) (gsN g 2) (gsN g 7) * gsN g 13 + Vq (gsH g) (gsC g) 0 0 (gsN g 0) (gsN g 1) (gsN g 2) (gsN g 7) * (1000000 - gsN g 13)).tdiv 1000000
theorem mulB {v p : Int} (h1 : -30000000 ≤ v ∧ v ≤ 30000000) (h2 : 0 ≤ p ∧ p ≤ 1000000) : -30000000000000 ≤ v * p ∧ v * p ≤ 30000000000000 := by
  have a : v * p ≤ 30000000 * p := Int.mul_le_mul_of_nonneg_right h1.2 h2.1
  have b : -30000000 * p ≤ v * p := Int.mul_le_mul_of_nonneg_right h1.1 h2.1
  omega
theorem ton_eq {a b p : Int} (ha : -30000000 ≤ a ∧ a ≤ 30000000) (hb : -30000000 ≤ b ∧ b ≤ 30000000) (hp : 0 ≤ p ∧ p ≤ 1000000) : Int64.toInt32 ((((Int32.toInt64 (iv a)) * (Int32.toInt64 (iv p))) + ((Int32.toInt64 (iv b)) * (Int32.toInt64 (1000000 - (iv p))))) / 1000000) = iv ((a * p + b * (1000000 - p)).tdiv 1000000) := by
  have m1 := mulB ha hp
  have m2 := mulB hb (p := 1000000 - p) (by omega)
  rw [il1000000, iv_sub, iv_wide (by omega) (by omega), iv_wide (by omega) (by omega), iv_wide (by omega) (by omega), iv_wide (by omega) (by omega), jv_mul, jv_mul, jv_add, jl1000000, jv_div (by omega) (by omega) (by omega) (by omega), jv_narrow]
theorem Vq_n (k : GOK g) (wet mute : Int) {w : Int} (hw : w = 0 ∨ w = 1) : -30000000 ≤ Vq (gsH g) (gsC g) wet mute (gsN g 0) (gsN g 1) (gsN g 2) w ∧ Vq (gsH g) (gsC g) wet mute (gsN g 0) (gsN g 1) (gsN g 2) w ≤ 30000000 := by
  have b := n_b k
  have z := Vq_bd k.1 wet mute (q := gsN g 0) b.1 (gsN g 1) (gsN g 2) w b.2.1.1 b.2.1.2 b.2.2.1.1 b.2.2.1.2 hw
  omega
theorem leTonightL (hN : 24000 ≤ N) (x : LeI c g h) (k : GOK g) : Wp (Le_tonight N 6 h) (AnsT c g h (opn g) (fTonight g)) := by
  have s := x.s
  have b := n_b k
  have r13 := k.2.2.1.2.2.2.2.2.2.2.2.2.1
  unfold Le_tonight fTonight
  refine Wp_ck (by rw [k6 s]) (Wp_bde (isOpenL x k) ?_)
  by_cases o : opn g
  · rw [decide_eq_true o]
    refine Wp_ifn (by decide) (Wp_ck (by rw [k6 s]) (Wp_bn (p6_6 s) (Wp_ck (by rw [k32 s]) (Wp_bn (p6_13 s) (Wp_ck (by rw [k39 s]) ?_)))))
    rw [x.f0.1, x.f0.2.1, x.f0.2.2.1, x.w7 k]
    refine Wp_bd2 (worth1L hN x k b.1 b.2.1 b.2.2.1 b.2.2.2.1) ?_
    rintro v h2 ⟨rfl, y, f⟩
    have s2 := y.s
    refine Wp_ck (by rw [k6 s2]) (Wp_bn (p6_6 s2) (Wp_ck (by rw [k32 s2]) (Wp_bn (p6_12 s2) (Wp_ck (by rw [k36 s2]) ?_))))
    rw [y.f0.1, y.f0.2.1, y.f0.2.2.1, y.w7 k]
    refine Wp_bd2 (worth0L hN y k b.1 b.2.1 b.2.2.1 b.2.2.2.1) ?_
    rintro v h3 ⟨rfl, z, f3⟩
    have s3 := z.s
    refine Wp_ck (by rw [k6 s3]) (Wp_bn (p6_6 s3) (Wp_ck (by rw [k32 s3]) (Wp_ck (by decide) ?_)))
    rw [z.f0.2.2.2.1, ton_eq (Vq_n k 1 0 b.2.2.2.1) (Vq_n k 0 0 b.2.2.2.1) r13]
    exact Wp_ret ⟨Or.inl ⟨o, rfl⟩, z.mono (by omega), f.tr f3⟩
  · rw [decide_eq_false o]
    exact Wp_ifp rfl (AnsT.no x o)
def fSurely (g : Gs) (z : Int) : Int := if (1 ≤ z ∧ z ≤ 3) ∧ gsN g 6 = 0 then Sq (gsH g) (gsC g) z (gsN g 0) (gsN g 1) (gsN g 7) else -1
theorem leSurelyL {z : Int} (hN : 24000 ≤ N) (x : LeI c g h) (k : GOK g) (hz : -2147483648 ≤ z ∧ z < 2147483648) : Wp (Le_surely N 6 (iv z) h) (AnsL c g h (fSurely g z)) := by
  have s := x.s
  unfold Le_surely fSurely
  rw [im1, il1, il3]
  refine Wp_if (fun c => ?_) (fun c => ?_)
  · rw [iv_lt (by omega) (by omega) (by omega) (by omega)] at c
    exact AnsL.no x (if_neg (by omega))
  rw [iv_lt (by omega) (by omega) (by omega) (by omega)] at c
  refine Wp_if (fun c => ?_) (fun c => ?_)
  · rw [iv_lt (by omega) (by omega) (by omega) (by omega)] at c
    exact AnsL.no x (if_neg (by omega))
  rw [iv_lt (by omega) (by omega) (by omega) (by omega)] at c
  refine Wp_ck (by rw [k6 s]) (Wp_bn (p6_6 s) (Wp_ck (by rw [k32 s]) ?_))
  rw [x.f0.2.2.2.2.2]
  by_cases d : gsN g 6 = 0
  · rw [decide_eq_true d, if_pos (show (1 ≤ z ∧ z ≤ 3) ∧ gsN g 6 = 0 by omega)]
    refine Wp_ifn (by decide) (Wp_bn (p6_17 s) (Wp_ck (by rw [k52 s]) ?_))
    rw [p6_6 s]
    refine Wp_bd2 (sureWL hN x k (by omega)) ?_
    rintro v h2 ⟨rfl, y, f⟩
    exact Wp_ret ⟨rfl, y.mono (by omega), f⟩
  · rw [decide_eq_false d]
    exact Wp_ifp rfl (AnsL.no x (if_neg (by omega)))
def fEnough (g : Gs) (z m : Int) : Int := if (1 ≤ z ∧ z ≤ 3) ∧ (0 ≤ m ∧ m ≤ 1000000) ∧ gsN g 6 = 0 then fewF (fun t => Sq (gsH g) (gsC g) z (gsN g 0) t (gsN g 7)) m (gsH g 1 + 1).toNat 0 else -1
theorem leEnoughL {z m : Int} (hN : 24000 ≤ N) (x : LeI c g h) (k : GOK g) (hz : -2147483648 ≤ z ∧ z < 2147483648) (hm : -2147483648 ≤ m ∧ m < 2147483648) : Wp (Le_enough N 6 (iv z) (iv m) h) (AnsL c g h (fEnough g z m)) := by
  have s := x.s
  unfold Le_enough fEnough
  rw [im1, il1, il3, il0, il1000000]
  refine Wp_if (fun c => ?_) (fun c => ?_)
  · rw [iv_lt (by omega) (by omega) (by omega) (by omega)] at c
    exact AnsL.no x (if_neg (by omega))
  rw [iv_lt (by omega) (by omega) (by omega) (by omega)] at c
  refine Wp_if (fun c => ?_) (fun c => ?_)
  · rw [iv_lt (by omega) (by omega) (by omega) (by omega)] at c
    exact AnsL.no x (if_neg (by omega))
  rw [iv_lt (by omega) (by omega) (by omega) (by omega)] at c
  refine Wp_if (fun c => ?_) (fun c => ?_)
  · rw [iv_lt (by omega) (by omega) (by omega) (by omega)] at c
    exact AnsL.no x (if_neg (by omega))
  rw [iv_lt (by omega) (by omega) (by omega) (by omega)] at c
  refine Wp_if (fun c => ?_) (fun c => ?_)
  · rw [iv_lt (by omega) (by omega) (by omega) (by omega)] at c
    exact AnsL.no x (if_neg (by omega))
  rw [iv_lt (by omega) (by omega) (by omega) (by omega)] at c
  refine Wp_ck (by rw [k6 s]) (Wp_bn (p6_6 s) (Wp_ck (by rw [k32 s]) ?_))
  rw [x.f0.2.2.2.2.2]
  by_cases d : gsN g 6 = 0
  · rw [decide_eq_true d, if_pos (show (1 ≤ z ∧ z ≤ 3) ∧ (0 ≤ m ∧ m ≤ 1000000) ∧ gsN g 6 = 0 by omega)]
    refine Wp_ifn (by decide) (Wp_bn (p6_17 s) (Wp_ck (by rw [k52 s]) ?_))
    rw [p6_6 s]
    refine Wp_bd2 (fewWL hN x k (by omega) (by omega)) ?_
    rintro v h2 ⟨rfl, y, f⟩
    exact Wp_ret ⟨rfl, y.mono (by omega), f⟩
  · rw [decide_eq_false d]
    exact Wp_ifp (by decide) (AnsL.no x (if_neg (by omega)))
/-- the greatest each, from so many down -/
def mstF (f : Int → Int) (m : Int) : Nat → Int
  | 0 => -1
  | n + 1 => if f (n + 1) < m then mstF f m n else ((n + 1 : Nat) : Int)
def fMost (g : Gs) (m : Int) : Int := if (0 ≤ m ∧ m ≤ 1000000) ∧ gsN g 6 = 0 then mstF (fun z => Sq (gsH g) (gsC g) z (gsN g 0) (gsN g 1) (gsN g 7)) m 3 else -1
theorem Sq_n (k : GOK g) {z : Int} (hz : 1 ≤ z ∧ z ≤ 3) : 0 ≤ Sq (gsH g) (gsC g) z (gsN g 0) (gsN g 1) (gsN g 7) ∧ Sq (gsH g) (gsC g) z (gsN g 0) (gsN g 1) (gsN g 7) ≤ 1000000 := by
  have b := n_b k
  exact Sq_b k.1 hz (q := gsN g 0) b.1 (gsN g 1) (gsN g 7) b.2.1.1 b.2.1.2 b.2.2.2.1
theorem leMostL {m : Int} (hN : 24000 ≤ N) (x : LeI c g h) (k : GOK g) (hm : -2147483648 ≤ m ∧ m < 2147483648) : Wp (Le_most N 6 (iv m) h) (AnsL c g h (fMost g m)) := by
  have s := x.s
  unfold Le_most fMost
  rw [im1, il3, il0, il1000000]
  refine Wp_if (fun e => ?_) (fun e => ?_)
  · rw [iv_lt (by omega) (by omega) (by omega) (by omega)] at e
    exact AnsL.no x (if_neg (by omega))
  rw [iv_lt (by omega) (by omega) (by omega) (by omega)] at e
  refine Wp_if (fun e => ?_) (fun e => ?_)
  · rw [iv_lt (by omega) (by omega) (by omega) (by omega)] at e
    exact AnsL.no x (if_neg (by omega))
  rw [iv_lt (by omega) (by omega) (by omega) (by omega)] at e
  refine Wp_ck (by rw [k6 s]) (Wp_bn (p6_6 s) (Wp_ck (by rw [k32 s]) ?_))
  rw [x.f0.2.2.2.2.2]
  by_cases d : gsN g 6 = 0
  · rw [decide_eq_true d, if_pos (show (0 ≤ m ∧ m ≤ 1000000) ∧ gsN g 6 = 0 by omega)]
    refine Wp_ifn (by decide) ?_
    have key : ∀ (n : Nat) (h1 : PH), n ≤ 3 → LeI c g h1 → CFr h h1 → ∀ fuel, n < fuel → Wp (Le_most_b25 N fuel 6 (iv m) (iv n) h1) (AnsL c g h (mstF (fun z => Sq (gsH g) (gsC g) z (gsN g 0) (gsN g 1) (gsN g 7)) m n)) := by
      intro n
      induction n with
      | zero =>
        intro h1 _ x1 f1 fuel hf
        obtain ⟨fu, rfl⟩ : ∃ e, fuel = e + 1 := ⟨fuel - 1, by omega⟩
        rw [Le_most_b25, im1]
        exact Wp_ifp (by decide) (Wp_ret ⟨rfl, x1.mono (by omega), f1⟩)
      | succ n ih =>
        intro h1 h3 x1 f1 fuel hf
        obtain ⟨fu, rfl⟩ : ∃ e, fuel = e + 1 := ⟨fuel - 1, by omega⟩
        have s1 := x1.s
        rw [Le_most_b25, il1]
        refine Wp_ifn (by rw [iv_lt (by omega) (by omega) (by omega) (by omega)]; omega) (Wp_ck (by rw [k6 s1]) (Wp_bn (p6_17 s1) (Wp_ck (by rw [k52 s1]) ?_)))
        rw [p6_6 s1]
        refine Wp_bd2 (sureWL hN x1 k (by omega)) ?_
        rintro v h2 ⟨rfl, y, f⟩
        have sb := Sq_n k (z := ((n + 1 : Nat) : Int)) (by omega)
        rw [mstF]
        refine Wp_if (fun c => ?_) (fun c => ?_)
        · rw [iv_lt (by omega) (by omega) (by omega) (by omega)] at c
          rw [if_pos (show Sq (gsH g) (gsC g) ((n : Int) + 1) (gsN g 0) (gsN g 1) (gsN g 7) < m from c), iv_neg, iv_add, show ((n + 1 : Nat) : Int) + -1 = (n : Int) from by omega]
          exact ih h2 (by omega) y (f1.tr f) fu (by omega)
        · rw [iv_lt (by omega) (by omega) (by omega) (by omega)] at c
          rw [if_neg (show ¬ Sq (gsH g) (gsC g) ((n : Int) + 1) (gsN g 0) (gsN g 1) (gsN g 7) < m from c)]
          exact Wp_ret ⟨rfl, y.mono (by omega), f1.tr f⟩
    exact key 3 h (by omega) x CFr.rf N (by omega)
  · rw [decide_eq_false d]
    exact Wp_ifp (by decide) (AnsL.no x (if_neg (by omega)))
def fRead (g : Gs) (z q t w : Int) : Int := if hbt g z ∧ (0 ≤ q ∧ q ≤ gsH g 0) ∧ (0 ≤ t ∧ t ≤ 120) ∧ 0 ≤ w ∧ w ≤ 1 then (if w = 0 then rdS (Dq (gsH g) (gsC g) (gE2 g) z q.toNat) t.toNat 97 else (rdB (Dq (gsH g) (gsC g) (gE2 g) z q.toNat) t.toNat 97).1) else -1
theorem leReadL {z q t w : Int} (hN : 24000 ≤ N) (x : LeI c g h) (k : GOK g) (hz : -2147483648 ≤ z ∧ z < 2147483648) (hq : -2147483648 ≤ q ∧ q < 2147483648) (ht : -2147483648 ≤ t ∧ t < 2147483648) (hw : -2147483648 ≤ w ∧ w < 2147483648) : Wp (Le_read N 6 (iv z) (iv q) (iv t) (iv w) h) (AnsL c g h (fRead g z q t w)) := by
  have s := x.s
  have b := n_b k
  unfold Le_read fRead
  rw [im1]
  refine Wp_ck (by rw [k6 s]) (Wp_bde (hasHabitL x k hz) ?_)
  by_cases o : hbt g z
  · rw [decide_eq_true o]
    refine Wp_ifn (by decide) ?_
    rw [il0, il120, il1]
    refine Wp_if (fun c => ?_) (fun c => ?_)
    · rw [iv_lt (by omega) (by omega) (by omega) (by omega)] at c
      exact AnsL.no x (if_neg (fun y => by have := y.2; omega))
    rw [iv_lt (by omega) (by omega) (by omega) (by omega)] at c
    refine Wp_ck (by rw [k6 s]) (Wp_bn (p6_1 s) (Wp_ck (by rw [k10 s]) ?_))
    rw [x.g0.1]
    refine Wp_if (fun c => ?_) (fun c => ?_)
    · rw [iv_lt (by omega) (by omega) (by omega) (by omega)] at c
      exact AnsL.no x (if_neg (fun y => by have := y.2; omega))
    rw [iv_lt (by omega) (by omega) (by omega) (by omega)] at c
    refine Wp_if (fun c => ?_) (fun c => ?_)
    · rw [iv_lt (by omega) (by omega) (by omega) (by omega)] at c
      exact AnsL.no x (if_neg (fun y => by have := y.2; omega))
    rw [iv_lt (by omega) (by omega) (by omega) (by omega)] at c
    refine Wp_if (fun c => ?_) (fun c => ?_)
    · rw [iv_lt (by omega) (by omega) (by omega) (by omega)] at c
      exact AnsL.no x (if_neg (fun y => by have := y.2; omega))
    rw [iv_lt (by omega) (by omega) (by omega) (by omega)] at c
    refine Wp_if (fun c => ?_) (fun c => ?_)
    · rw [iv_lt (by omega) (by omega) (by omega) (by omega)] at c
      exact AnsL.no x (if_neg (fun y => by have := y.2; omega))
    rw [iv_lt (by omega) (by omega) (by omega) (by omega)] at c
    refine Wp_if (fun c => ?_) (fun c => ?_)
    · rw [iv_le (by omega) (by omega) (by omega) (by omega)] at c
      rw [if_pos (show hbt g z ∧ (0 ≤ q ∧ q ≤ gsH g 0) ∧ (0 ≤ t ∧ t ≤ 120) ∧ 0 ≤ w ∧ w ≤ 1 from ⟨o, by omega⟩)]
      refine Wp_bn (p6_16 s) (Wp_ck (by rw [k49 s]) ?_)
      have rd := readWL (q := q.toNat) (t := t.toNat) hN x k o (by omega) (by omega)
      rw [show ((q.toNat : Nat) : Int) = q from by omega, show ((t.toNat : Nat) : Int) = t from by omega] at rd
      refine Wp_bd2 rd ?_
      rintro - h2 ⟨y, f, r1, r2⟩
      have s2 := y.s
      refine Wp_if (fun c => ?_) (fun c => ?_)
      · rw [iv_eq (by omega) (by omega) (by omega) (by omega)] at c
        rw [if_pos c]
        exact Wp_ck (by rw [k6 s2]) (Wp_bn (p6_16 s2) (Wp_ck (by rw [k49 s2]) (Wp_bde r1 (Wp_ret ⟨rfl, y.mono (by omega), f⟩))))
      · rw [iv_eq (by omega) (by omega) (by omega) (by omega)] at c
        rw [if_neg c]
        exact Wp_ck (by rw [k6 s2]) (Wp_bn (p6_16 s2) (Wp_ck (by rw [k49 s2]) (Wp_bde r2 (Wp_ret ⟨rfl, y.mono (by omega), f⟩))))
    · rw [iv_le (by omega) (by omega) (by omega) (by omega)] at c
      exact AnsL.no x (if_neg (fun y => by have := y.2; omega))
  · rw [decide_eq_false o]
    exact Wp_ifp rfl (AnsL.no x (if_neg (fun y => o y.1)))
end
