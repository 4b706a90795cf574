/-! THE PURE PROOFS, 16: SURELY, the reference's way. -/
def RowT (H : Nat → Int) (f : Int → Int → Int) (q : Int) (h : PH) : Prop := ∀ t w : Int, 0 ≤ t → t ≤ H 1 → (w = 0 ∨ w = 1) → hI h 121 (plM q t 0 w).toNat = iv (f t w)
def AboveT (H : Nat → Int) (f : Int → Int → Int → Int) (q : Int) (h : PH) : Prop := ∀ q2 : Int, q < q2 → q2 ≤ H 0 → RowT H (f q2) q2 h
def DoneT (H : Nat → Int) (f : Int → Int → Int → Int) (q t v : Int) (h : PH) : Prop := ∀ t2 w : Int, 0 ≤ t2 → t2 ≤ H 1 → (w = 0 ∨ w = 1) → (t2 < t ∨ (t2 = t ∧ w < v)) → hI h 121 (plM q t2 0 w).toNat = iv (f q t2 w)
theorem AboveT.upd {H C : Nat → Int} {f : Int → Int → Int → Int} {q t w : Int} {h h2 : PH} {x : Int32} (ab : AboveT H f q h) (hq : 0 ≤ q ∧ q ≤ H 0) (ht : 0 ≤ t ∧ t ≤ H 1) (hw : 0 ≤ w ∧ w ≤ 1) (r : ∀ i, hI h2 121 i = if i = (plM q t 0 w).toNat then x else hI h 121 i) (ho : HOK H C) : AboveT H f q h2 := by
  have h01 := ho.1
  have h11 := ho.2.1
  intro q2 b0 b1 t2 w2 b2 b3 b6
  have p1 := plM_b (q := q) (t := t) (a := 0) (w := w) (by omega) (by omega) (by omega) hw
  have p2 := plM_b (q := q2) (t := t2) (a := 0) (w := w2) (by omega) (by omega) (by omega) (by omega)
  rw [r, if_neg]
  · exact ab q2 b0 b1 t2 w2 b2 b3 b6
  · intro e
    have := (plM_inj (q := q2) (t := t2) (a := 0) (w := w2) (q2 := q) (t2 := t) (a2 := 0) (w2 := w) (by omega) (by omega) (by omega) (by omega) (by omega) hw (by omega)).1
    omega
theorem DoneT.upd {H C : Nat → Int} {f : Int → Int → Int → Int} {q t w : Int} {h h2 : PH} (d : DoneT H f q t w h) (hq : 0 ≤ q ∧ q ≤ H 0) (ht : 0 ≤ t ∧ t ≤ H 1) (hw : 0 ≤ w ∧ w ≤ 1) (r : ∀ i, hI h2 121 i = if i = (plM q t 0 w).toNat then iv (f q t w) else hI h 121 i) (ho : HOK H C) : DoneT H f q t (w + 1) h2 := by
  have h01 := ho.1
  have h11 := ho.2.1
  intro t2 w2 b2 b3 b6 b7
  have p1 := plM_b (q := q) (t := t) (a := 0) (w := w) (by omega) (by omega) (by omega) hw
  have p2 := plM_b (q := q) (t := t2) (a := 0) (w := w2) (by omega) (by omega) (by omega) (by omega)
  rw [r]
  by_cases c1 : plM q t2 0 w2 = plM q t 0 w
  · obtain ⟨-, i2, -, i4⟩ := plM_inj (by omega) (by omega) (by omega : 0 ≤ w2 ∧ w2 ≤ 1) (by omega) (by omega) hw c1
    rw [if_pos (by rw [c1]), i2, i4]
  · rw [if_neg (by omega)]
    refine d t2 w2 b2 b3 b6 ?_
    have ne : ¬ (t2 = t ∧ w2 = w) := by
      rintro ⟨rfl, rfl⟩
      exact c1 rfl
    omega
def CxS (H C : Nat → Int) (each : Int) (h : PH) : Prop := Shp h ∧ HsM H C h ∧ (1 ≤ each ∧ each ≤ 3)
theorem CxS.fr {H C : Nat → Int} {each : Int} {h h2 : PH} (x : CxS H C each h) (f : FrV h h2) : CxS H C each h2 := ⟨f.shp x.1, f.hs x.2.1, x.2.2⟩
theorem cell_surely {N : Nat} {H C : Nat → Int} {each q t w : Int} {K7 : Nat → Int32 → Int32 → PH → Option (Int32 × PH)} {K19 : Nat → Int32 → Int32 → Int32 → PH → Option (Int32 × PH)} {K32 : Nat → Int32 → Int32 → Int32 → Int32 → PH → Option (Int32 × PH)} {Q : Int32 → PH → Prop} {h : PH} (hN : 200 ≤ N) (ho : HOK H C) (cx : CxS H C each h) (ab : AboveT H (Sq H C each) q h) (hq : 0 ≤ q ∧ q ≤ H 0) (ht : 0 ≤ t ∧ t ≤ H 1) (hw : w = 0 ∨ w = 1) (kk : ∀ h2, FrV h h2 → (∀ i, hI h2 121 i = if i = (plM q t 0 w).toNat then iv (Sq H C each q t w) else hI h 121 i) → Wp (K32 92 (iv each) (iv q) (iv t) (iv (w + 1)) h2) Q) : Wp (Mo_surelyNow_b44 N K7 K19 K32 N 92 (iv each) (iv q) (iv t) (iv w) (jv 0) (iv 0) h) Q := by
  have h01 := ho.1
  have h11 := ho.2.1
  obtain ⟨s, hs, he⟩ := cx
  have pb := plM_b (q := q) (t := t) (a := 0) (w := w) (by omega) (by omega) (by omega) (by omega)
  have fin : ∀ (x : Int), x = Sq H C each q t w → Wp (Mo_surelyNow_b183 N K7 K19 K32 (some 121) (iv (plM q t 0 w)) (iv x) 92 (iv each) (iv q) (iv t) (iv w) h) Q := by
    rintro x rfl
    unfold Mo_surelyNow_b183
    refine Wp_bn rfl (Wp_ck (by rw [k121 s]) (Wp_ck (by rw [k121 s]; exact inb_iv pb.1 pb.2 (by omega)) (Wp_lt ?_)))
    rw [il1, iv_add, ix_iv pb.1 (by omega)]
    refine kk _ FrV.rf.t ?_
    intro i
    rw [hI_wI]
    simp only [true_and]
  have lay : ∀ sum : Int, (q = H 0 ∨ (q < H 0 ∧ 0 ≤ sum ∧ sum ≤ 10000000 ∧ sum.tdiv 10 = Sq H C each q t w)) → Wp (Mo_surelyNow_b148 N K7 K19 K32 92 (iv each) (iv q) (iv t) (iv w) (jv sum) h) Q := by
    intro sum hc
    unfold Mo_surelyNow_b148
    rw [il0]
    refine Wp_ck (by rw [k92 s]) (Wp_bde atM (Wp_ck (by rw [k92 s]) (Wp_bn (p92_10 s) (Wp_ck (by rw [k94 s]) (Wp_ck (by rw [k94 s]; decide) ?_)))))
    rw [← il0, ix_l 0 (by omega), hs.1 0 (by omega), p92_44 s]
    refine Wp_if (fun c => ?_) (fun c => ?_)
    · rw [iv_eq (by omega) (by omega) (by omega) (by omega)] at c
      rw [il1000000]
      exact fin _ (Sq_end c).symm
    · rw [iv_eq (by omega) (by omega) (by omega) (by omega)] at c
      rcases hc with hc | ⟨hc, s0, s1, s2⟩
      · omega
      · refine Wp_ck (by decide) ?_
        rw [jl10, jv_div (by omega) (by omega) (by omega) (by omega), jv_narrow]
        exact fin _ s2
  by_cases cq : q = H 0
  · obtain ⟨fu, efu⟩ : ∃ g, N = g + 1 := ⟨N - 1, by omega⟩
    have go : Wp (Mo_surelyNow_b44 N K7 K19 K32 (fu + 1) 92 (iv each) (iv q) (iv t) (iv w) (jv 0) (iv 0) h) Q := by
      rw [Mo_surelyNow_b44]
      refine Wp_ifn (by decide) (Wp_ck (by rw [k92 s]) (Wp_bn (p92_10 s) (Wp_ck (by rw [k94 s]) (Wp_ck (by rw [k94 s]; decide) ?_))))
      rw [ix_l 0 (by omega), hs.1 0 (by omega)]
      exact Wp_ifp (by rw [iv_le (by omega) (by omega) (by omega) (by omega)]; omega) (lay 0 (Or.inl cq))
    rw [← efu] at go
    exact go
  · have row := ab (q + 1) (by omega) (by omega)
    have b := Sq_b ho he (q := q + 1) (by omega)
    have mb := sM_b ho b he (q := q) (by omega) ht hw
    have step : ∀ (fu : Nat) (k sum : Int), 0 ≤ k → k ≤ 3 → Wp (Mo_surelyNow_b44 N K7 K19 K32 fu 92 (iv each) (iv q) (iv t) (iv w) (jv (sum + sT H C each (Sq H C each (q + 1)) q t w k)) (iv (k + 1)) h) Q → Wp (Mo_surelyNow_b44 N K7 K19 K32 (fu + 1) 92 (iv each) (iv q) (iv t) (iv w) (jv sum) (iv k) h) Q := by
      intro fu k sum k0 k3 kn
      have cb := cw_b ho (wet := 0) (q := q) (k := k) (by omega) (by omega)
      have hx : 0 ≤ each * (k + w) ∧ each * (k + w) ≤ 3 * 4 := ⟨Int.mul_nonneg (by omega) (by omega), Int.mul_le_mul he.2 (by omega) (by omega) (by omega)⟩
      have hx2 : -3 ≤ each * (k + w - 1) ∧ each * (k + w - 1) ≤ 12 := by rw [Int.mul_sub, Int.mul_one]; omega
      have yes : (k + w = 0 ∨ each * (k + w - 1) < t) → Wp (Mo_surelyNow_b85 N K7 K19 K32 (Mo_surelyNow_b44 N K7 K19 K32 fu) 92 (iv each) (iv q) (iv t) (iv w) (jv sum) (iv k) (iv (k + w)) h) Q := by
        intro c
        have last : ∀ z : Int, (z = 0 ∨ z = 1) → z = isW H each (k + w) → Wp (Mo_surelyNow_b133 N K7 K19 K32 (Mo_surelyNow_b44 N K7 K19 K32 fu) (jv sum) (jv (cw C 0 q k)) (some 121) (iv (q + 1)) (iv (max 0 (t - each * (k + w)))) (iv 0) (iv z) 92 (iv each) (iv q) (iv t) (iv w) (iv k) h) Q := by
          intro z z01 ez
          have pb2 := plM_b (q := q + 1) (t := max 0 (t - each * (k + w))) (a := 0) (w := z) (by omega) (by omega) (by omega) (by omega)
          have nb := b (max 0 (t - each * (k + w))) z (by omega) (by omega) z01
          unfold Mo_surelyNow_b133 Mo_surelyNow_b142
          refine Wp_bde atM (Wp_bn rfl (Wp_ck (by rw [k121 s]) (Wp_ck (by rw [k121 s]; exact inb_iv pb2.1 pb2.2 (by omega)) ?_)))
          rw [ix_iv pb2.1 (by omega), row _ z (by omega) (by omega) z01, iv_wide (by omega) (by omega), jv_mul, jv_add, il1, iv_add]
          unfold sT at kn
          rw [if_pos c, ← ez] at kn
          exact kn
        unfold Mo_surelyNow_b85
        refine Wp_ck (by rw [k92 s]) ?_
        rw [il0]
        refine Wp_bde (chM_eq s hs (Or.inl rfl) (by omega) (by omega)) (Wp_ck (by rw [k92 s]) (Wp_bde (isWM_eq s ho hs (by omega) (by omega)) ?_))
        rw [← il0]
        simp only [bI_0]
        rw [il0, il1, iv_mul, iv_sub, iv_add, iv_mx (by omega) (by omega) (by omega) (by omega), iv_wide (by omega) (by omega), p92_44 s]
        rcases isW_01 H each (k + w) with e | e
        · rw [e]
          exact Wp_ifp (by decide) (last 0 (Or.inl rfl) e.symm)
        · rw [e]
          exact Wp_ifn (by decide) (last 1 (Or.inr rfl) e.symm)
      rw [Mo_surelyNow_b44]
      refine Wp_ifn (by rw [il4, iv_le (by omega) (by omega) (by omega) (by omega)]; omega) (Wp_ck (by rw [k92 s]) (Wp_bn (p92_10 s) (Wp_ck (by rw [k94 s]) (Wp_ck (by rw [k94 s]; decide) ?_))))
      rw [ix_l 0 (by omega), hs.1 0 (by omega)]
      refine Wp_ifn (by rw [iv_le (by omega) (by omega) (by omega) (by omega)]; omega) ?_
      rw [iv_add, il0, il1, iv_sub, iv_mul]
      refine Wp_if (fun c => ?_) (fun c => ?_)
      · rw [iv_le (by omega) (by omega) (by omega) (by omega)] at c
        exact yes (Or.inl (by omega))
      · rw [iv_le (by omega) (by omega) (by omega) (by omega)] at c
        refine Wp_if (fun c2 => ?_) (fun c2 => ?_)
        · rw [iv_lt (by omega) (by omega) (by omega) (by omega)] at c2
          exact yes (Or.inr c2)
        · rw [iv_lt (by omega) (by omega) (by omega) (by omega)] at c2
          unfold Mo_surelyNow_b142
          rw [il1, iv_add]
          unfold sT at kn
          rw [if_neg (by omega), Int.add_zero] at kn
          exact kn
    obtain ⟨fu, efu⟩ : ∃ g, N = g + 1 + 1 + 1 + 1 + 1 := ⟨N - 5, by omega⟩
    have go : Wp (Mo_surelyNow_b44 N K7 K19 K32 (fu + 1 + 1 + 1 + 1 + 1) 92 (iv each) (iv q) (iv t) (iv w) (jv 0) (iv 0) h) Q := by
      refine step _ 0 0 (by omega) (by omega) (step _ (0 + 1) _ (by omega) (by omega) (step _ (0 + 1 + 1) _ (by omega) (by omega) (step _ (0 + 1 + 1 + 1) _ (by omega) (by omega) ?_)))
      rw [Mo_surelyNow_b44]
      refine Wp_ifp (by decide) (lay _ (Or.inr ⟨by omega, ?_⟩))
      have e : (0 : Int) + sT H C each (Sq H C each (q + 1)) q t w 0 + sT H C each (Sq H C each (q + 1)) q t w (0 + 1) + sT H C each (Sq H C each (q + 1)) q t w (0 + 1 + 1) + sT H C each (Sq H C each (q + 1)) q t w (0 + 1 + 1 + 1) = sT H C each (Sq H C each (q + 1)) q t w 0 + sT H C each (Sq H C each (q + 1)) q t w 1 + sT H C each (Sq H C each (q + 1)) q t w 2 + sT H C each (Sq H C each (q + 1)) q t w 3 := by
        rw [show (0 : Int) + 1 = 1 from rfl, show (1 : Int) + 1 = 2 from rfl, show (2 : Int) + 1 = 3 from rfl]
        omega
      rw [e]
      exact ⟨mb.1.1, mb.1.2, (Sq_lt (by omega)).symm⟩
    rw [← efu] at go
    exact go
theorem w_surely {N : Nat} {H C : Nat → Int} {each q t : Int} {K7 : Nat → Int32 → Int32 → PH → Option (Int32 × PH)} {K19 : Nat → Int32 → Int32 → Int32 → PH → Option (Int32 × PH)} {Q : Int32 → PH → Prop} {h : PH} (hN : 200 ≤ N) (ho : HOK H C) (cx : CxS H C each h) (ab : AboveT H (Sq H C each) q h) (d : DoneT H (Sq H C each) q t 0 h) (hq : 0 ≤ q ∧ q ≤ H 0) (ht : 0 ≤ t ∧ t ≤ H 1) (kk : ∀ h2, FrV h h2 → AboveT H (Sq H C each) q h2 → DoneT H (Sq H C each) q t (0 + 1 + 1) h2 → Wp (K19 92 (iv each) (iv q) (iv (t + 1)) h2) Q) : Wp (Mo_surelyNow_b32 N K7 K19 N 92 (iv each) (iv q) (iv t) (iv 0) h) Q := by
  obtain ⟨fu, efu⟩ : ∃ g, N = g + 1 + 1 + 1 := ⟨N - 3, by omega⟩
  have go : Wp (Mo_surelyNow_b32 N K7 K19 (fu + 1 + 1 + 1) 92 (iv each) (iv q) (iv t) (iv 0) h) Q := by
    rw [Mo_surelyNow_b32]
    refine Wp_ifn (by decide) ?_
    rw [il0, jl0]
    refine cell_surely hN ho cx ab hq ht (Or.inl rfl) ?_
    intro h1 f1 r1
    have ab1 := ab.upd hq ht (by omega) r1 ho
    rw [Mo_surelyNow_b32]
    refine Wp_ifn (by decide) ?_
    rw [il0, jl0]
    refine cell_surely hN ho (cx.fr f1) ab1 hq ht (Or.inr rfl) ?_
    intro h2 f2 r2
    rw [Mo_surelyNow_b32]
    refine Wp_ifp (by decide) ?_
    rw [il1, iv_add]
    exact kk h2 (f1.tr f2) (ab1.upd hq ht (by omega) r2 ho) ((d.upd hq ht (by omega) r1 ho).upd hq ht (by omega) r2 ho)
  rw [← efu] at go
  exact go
theorem t_surely {N : Nat} {H C : Nat → Int} {each q : Int} {K7 : Nat → Int32 → Int32 → PH → Option (Int32 × PH)} {Q : Int32 → PH → Prop} (hN : 200 ≤ N) (ho : HOK H C) (hq : 0 ≤ q ∧ q ≤ H 0) {h0 : PH} (kk : ∀ h2, FrV h0 h2 → AboveT H (Sq H C each) (q - 1) h2 → Wp (K7 92 (iv each) (iv (q - 1)) h2) Q) : ∀ (m : Nat) (t : Int) (h : PH), t + m = H 1 + 1 → 0 ≤ t → CxS H C each h → FrV h0 h → AboveT H (Sq H C each) q h → DoneT H (Sq H C each) q t 0 h → ∀ fuel, m < fuel → Wp (Mo_surelyNow_b19 N K7 fuel 92 (iv each) (iv q) (iv t) h) Q := by
  intro m
  have h01 := ho.1
  have h11 := ho.2.1
  induction m with
  | zero =>
    intro t h e ht cx fr ab d fuel hf
    obtain ⟨fu, rfl⟩ : ∃ fu, fuel = fu + 1 := ⟨fuel - 1, by omega⟩
    have s := cx.1
    rw [Mo_surelyNow_b19]
    refine Wp_ck (by rw [k92 s]) (Wp_bn (p92_10 s) (Wp_ck (by rw [k94 s]) (Wp_ck (by rw [k94 s]; decide) ?_)))
    rw [ix_l 1 (by omega), cx.2.1.1 1 (by omega), il1, iv_neg, iv_add, show q + -1 = q - 1 from by omega]
    refine Wp_ifp (by rw [iv_lt (by omega) (by omega) (by omega) (by omega)]; omega) ?_
    refine kk h fr (fun q2 b0 b1 => ?_)
    by_cases c : q2 = q
    · rw [c]; exact fun t2 w b2 b3 b4 => d t2 w b2 b3 b4 (Or.inl (by omega))
    · exact ab q2 (by omega) b1
  | succ m ih =>
    intro t h e ht cx fr ab d fuel hf
    obtain ⟨fu, rfl⟩ : ∃ fu, fuel = fu + 1 := ⟨fuel - 1, by omega⟩
    have s := cx.1
    rw [Mo_surelyNow_b19]
    refine Wp_ck (by rw [k92 s]) (Wp_bn (p92_10 s) (Wp_ck (by rw [k94 s]) (Wp_ck (by rw [k94 s]; decide) ?_)))
    rw [ix_l 1 (by omega), cx.2.1.1 1 (by omega), il0]
    refine Wp_ifn (by rw [iv_lt (by omega) (by omega) (by omega) (by omega)]; omega) ?_
    refine w_surely hN ho cx ab d hq ⟨ht, by omega⟩ ?_
    intro h2 g ab2 d2
    refine ih (t + 1) h2 (by omega) (by omega) (cx.fr g) (fr.tr g) ab2 ?_ fu (by omega)
    intro t3 w3 b3 b4 b7 b8
    exact d2 t3 w3 b3 b4 b7 (by omega)
theorem q_surely {N : Nat} {H C n : Nat → Int} {each : Int} (hN : 200 ≤ N) (ho : HOK H C) (nk : NOK H n) {h0 : PH} : ∀ (m : Nat) (q : Int) (h : PH), q + 1 = n 0 + m → q ≤ H 0 → CxS H C each h → NtM n h → FrV h0 h → AboveT H (Sq H C each) q h → ∀ fuel, m < fuel → Wp (Mo_surelyNow_b7 N fuel 92 (iv each) (iv q) h) (fun v h2 => v = iv (Sq H C each (n 0) (n 1) (n 7)) ∧ FrV h0 h2 ∧ RowT H (Sq H C each (n 0)) (n 0) h2) := by
  intro m
  have h01 := ho.1
  have h11 := ho.2.1
  have nk0 := nk
  obtain ⟨n01, q3, -, -, -, -, -, i7, -⟩ := nk
  induction m with
  | zero =>
    intro q h e hq cx nt fr ab fuel hf
    obtain ⟨fu, rfl⟩ : ∃ fu, fuel = fu + 1 := ⟨fuel - 1, by omega⟩
    have s := cx.1
    have pb := plM_b (q := n 0) (t := n 1) (a := 0) (w := n 7) (by omega) (by omega) (by omega) (by omega)
    rw [Mo_surelyNow_b7]
    simp (disch := decide) only [bn_s, k92 s, p92_35 s, p92_44 s, p92_10 s, k116 s, k94 s, ck_T, inb_l, ix_l, eq_self]
    rw [nt 0 (by omega), nt 1 (by omega), nt 7 (by omega)]
    refine Wp_ifp (by rw [iv_lt (by omega) (by omega) (by omega) (by omega)]; omega) ?_
    rw [il0]
    refine Wp_bde atM (Wp_ck (by rw [k121 s]) (Wp_ck (by rw [k121 s]; exact inb_iv pb.1 pb.2 (by omega)) (Wp_ret ⟨?_, fr, ab (n 0) (by omega) (by omega)⟩)))
    rw [ix_iv pb.1 (by omega), ab (n 0) (by omega) (by omega) (n 1) (n 7) q3.1 q3.2 i7]
  | succ m ih =>
    intro q h e hq cx nt fr ab fuel hf
    obtain ⟨fu, rfl⟩ : ∃ fu, fuel = fu + 1 := ⟨fuel - 1, by omega⟩
    have s := cx.1
    rw [Mo_surelyNow_b7]
    simp (disch := decide) only [bn_s, k92 s, p92_35 s, p92_44 s, p92_10 s, k116 s, k94 s, ck_T, inb_l, ix_l, eq_self]
    rw [nt 0 (by omega)]
    refine Wp_ifn (by rw [iv_lt (by omega) (by omega) (by omega) (by omega)]; omega) ?_
    rw [il0]
    refine t_surely hN ho ⟨by omega, hq⟩ (h0 := h) ?_ (H 1 + 1).toNat 0 h (by omega) (by omega) cx FrV.rf ab (fun t3 w3 b3 b4 b7 b8 => by omega) N (by omega)
    intro h2 g ab2
    exact ih (q - 1) h2 (by omega) (by omega) (cx.fr g) (g.nt nt) (fr.tr g) ab2 fu (by omega)
theorem surelyM {N : Nat} {H C n : Nat → Int} {each : Int} {h : PH} (hN : 200 ≤ N) (ho : HOK H C) (nk : NOK H n) (cx : CxS H C each h) (nt : NtM n h) : Wp (Mo_surelyNow N 92 (iv each) h) (fun v h2 => v = iv (Sq H C each (n 0) (n 1) (n 7)) ∧ FrV h h2 ∧ RowT H (Sq H C each (n 0)) (n 0) h2) := by
  have h01 := ho.1
  have n01 := nk.1
  have s := cx.1
  unfold Mo_surelyNow
  refine Wp_ck (by rw [k92 s]) (Wp_bn (p92_10 s) (Wp_ck (by rw [k94 s]) (Wp_ck (by rw [k94 s]; decide) ?_)))
  rw [ix_l 0 (by omega), cx.2.1.1 0 (by omega)]
  exact q_surely hN ho nk (h0 := h) (H 0 + 1 - n 0).toNat (H 0) h (by omega) (Int.le_refl _) cx nt FrV.rf (fun q2 b0 b1 => by omega) N (by omega)
theorem enoughM {N : Nat} {H C n : Nat → Int} {each mil : Int} {h : PH} (hN : 200 ≤ N) (ho : HOK H C) (nk : NOK H n) (cx : CxS H C each h) (nt : NtM n h) (hm : 0 ≤ mil ∧ mil ≤ 1000000) (row : RowT H (Sq H C each (n 0)) (n 0) h) : Mo_enough_b46 N N 92 (iv mil) (iv 0) h = some (iv (fewF (fun t => Sq H C each (n 0) t (n 7)) mil (H 1 + 1).toNat 0), h) := by
  have h01 := ho.1
  have h11 := ho.2.1
  have s := cx.1
  have b := Sq_b ho cx.2.2 (q := n 0) nk.1
  obtain ⟨n01, q3, -, -, -, -, -, i7, -⟩ := nk
  have key : ∀ (m : Nat) (t : Int), t + m = H 1 + 1 → 0 ≤ t → ∀ fuel, m < fuel → Mo_enough_b46 N fuel 92 (iv mil) (iv t) h = some (iv (fewF (fun t => Sq H C each (n 0) t (n 7)) mil m t), h) := by
    intro m
    induction m with
    | zero =>
      intro t e ht fuel hf
      obtain ⟨fu, rfl⟩ : ∃ fu, fuel = fu + 1 := ⟨fuel - 1, by omega⟩
      rw [Mo_enough_b46]
      dsimp only
      rw [ck_p (by rw [k92 s]), p92_10 s, bn_s, ck_p (by rw [k94 s]), ck_p (by rw [k94 s]; decide), ix_l 1 (by omega), cx.2.1.1 1 (by omega), if_pos (by rw [iv_lt (by omega) (by omega) (by omega) (by omega)]; omega), il1, iv_neg]
      rfl
    | succ m ih =>
      intro t e ht fuel hf
      obtain ⟨fu, rfl⟩ : ∃ fu, fuel = fu + 1 := ⟨fuel - 1, by omega⟩
      have tb := b t (n 7) ht (by omega) i7
      have pb := plM_b (q := n 0) (t := t) (a := 0) (w := n 7) (by omega) (by omega) (by omega) (by omega)
      rw [Mo_enough_b46]
      dsimp only
      rw [ck_p (by rw [k92 s]), p92_10 s, bn_s, ck_p (by rw [k94 s]), ck_p (by rw [k94 s]; decide), ix_l 1 (by omega), cx.2.1.1 1 (by omega), if_neg (by rw [iv_lt (by omega) (by omega) (by omega) (by omega)]; omega), p92_35 s, bn_s, ck_p (by rw [k116 s]), ck_p (by rw [k116 s]; decide), ck_p (by rw [k116 s]; decide), ix_l 0 (by omega), ix_l 7 (by omega), nt 0 (by omega), nt 7 (by omega), il0, atM, bd_s, p92_44 s, bn_s, ck_p (by rw [k121 s]), ck_p (by rw [k121 s]; exact inb_iv pb.1 pb.2 (by omega)), ix_iv pb.1 (by omega), row t (n 7) ht (by omega) i7]
      simp only [show (iv (Sq H C each (n 0) t (n 7)) < iv mil) ↔ Sq H C each (n 0) t (n 7) < mil from iv_lt (by omega) (by omega) (by omega) (by omega)]
      rw [fewF]
      by_cases c : Sq H C each (n 0) t (n 7) < mil
      · rw [if_pos c, if_pos c, il1, iv_add]
        exact ih (t + 1) (by omega) (by omega) fu (by omega)
      · rw [if_neg c, if_neg c]
  exact key (H 1 + 1).toNat 0 (by omega) (by omega) N (by omega)
