/-! THE PURE PROOFS, 34: how much a guest gets, read behind a fault. -/
def FrQ (h h2 : PH) : Prop := FrS (fun b => b = 7 ∨ b = 16 ∨ b = 20) h h2 ∧ hI h2 7 1 = hI h 7 1 ∧ (∀ j, j ≠ 13 → hI h2 16 j = hI h 16 j)
theorem FrQ.rf {h : PH} : FrQ h h := ⟨FrS.rf, rfl, fun _ _ => rfl⟩
theorem FrQ.tr {h h1 h2 : PH} (a : FrQ h h1) (b : FrQ h1 h2) : FrQ h h2 := ⟨a.1.tr b.1, b.2.1.trans a.2.1, fun j q => (b.2.2 j q).trans (a.2.2 j q)⟩
theorem FrQ.tx {T : Nat → Int} {L : Nat} {h h2 : PH} (f : FrQ h h2) (x : TxL T L h) : TxL T L h2 := x.fr f.1 (by omega) (by omega) (by omega) (by omega) f.2.1
theorem FrQ.w {h0 h : PH} {a i : Nat} {v : Int32} (f : FrQ h0 h) (ha : (a = 16 ∧ i = 13) ∨ a = 20) : FrQ h0 (wI h a i v) := f.tr ⟨FrS.rf.aI (by omega), by rw [hI_wI, if_neg (by omega)], fun j _ => by rw [hI_wI, if_neg (by omega)]⟩
theorem writeX {N : Nat} {v : Int32} {h : PH} (s : Shp h) : Wp (Ho_write N 16 v h) (fun _ h2 => FrQ h h2 ∧ hI h2 7 = hI h 7) := by
  unfold Ho_write
  refine Wp_ck (by rw [k16 s]) ?_
  rw [p16_17 s]
  have put : Wp (Le_put N (some 20) (hI h 16 13) v h) (fun _ h2 => FrQ h h2 ∧ hI h2 7 = hI h 7) := by
    unfold Le_put
    refine Wp_if (fun c => Wp_ret ⟨FrQ.rf, rfl⟩) (fun c => ?_)
    refine Wp_bn rfl (Wp_ck (by rw [k20 s]) (Wp_if (fun d => Wp_ret ⟨FrQ.rf, rfl⟩) (fun d => ?_)))
    refine Wp_ck ?_ (Wp_ltr ⟨FrQ.rf.w (by omega), by funext j; rw [hI_wI, if_neg (by omega)]⟩)
    rw [k20 s, iv_nat] at d
    rw [k20 s]
    have ei : hI h 16 13 = iv (hI h 16 13).toInt := (Int32.ofInt_toInt _).symm
    generalize hI h 16 13 = z at c d ei
    rw [il0, Int32.lt_iff_toInt_lt, show (iv 0).toInt = 0 from by decide] at c
    rw [Int32.le_iff_toInt_le, show (iv ((1000 : Nat) : Int)).toInt = 1000 from by decide] at d
    rw [ei]
    exact inb_iv (by omega) (by omega) (by omega)
  refine Wp_bd2 put ?_
  rintro - h1 ⟨f1, e1⟩
  refine Wp_ck (by rw [k16 (f1.1.shp s)]) (Wp_ltr ⟨f1.w (by omega), ?_⟩)
  rw [← e1]
  funext j
  rw [hI_wI, if_neg (by omega)]
/-- a reading function does nothing behind a fault f -/
def PX (T : Nat → Int) (L : Nat) (f : Int) (F : Nat → Int32 → PH → Option (Unit × PH)) (w : Int32) : Prop := ∀ h, TxL T L h → hI h 7 8 = iv f → Wp (F 28 w h) (fun _ h2 => FrQ h h2 ∧ hI h2 7 8 = iv f)
theorem stepX {N : Nat} {f : Int} {h : PH} (s : Shp h) (hf : 0 < f ∧ f < 1048576) (e : hI h 7 8 = iv f) : Ta_step N 7 h = some ((), h) := by
  unfold Ta_step
  rw [ck_p (by rw [k7 s]), e, il0, if_neg (by rw [iv_eq (by omega) (by omega) (by omega) (by omega)]; omega)]
theorem blameX {N : Nat} {f : Int} {k : Int32} {h : PH} (s : Shp h) (hf : 0 < f ∧ f < 1048576) (e : hI h 7 8 = iv f) : Ta_blame N 7 k h = some ((), h) := by
  unfold Ta_blame
  rw [ck_p (by rw [k7 s]), e, il0, if_neg (by rw [iv_eq (by omega) (by omega) (by omega) (by omega)]; omega)]
theorem loopX {N : Nat} {T : Nat → Int} {L : Nat} {f : Int} {rec : Nat → Int32 → PH → Option (Unit × PH)} {w : Int32} (hN : 10 ≤ N) (hf : 0 < f ∧ f < 1048576) {h0 h : PH} (f0 : FrQ h0 h) (x : TxL T L h) (e : hI h 7 8 = iv f) : Wp (Re_product_b7 N rec N 28 w 0 h) (fun _ h2 => FrQ h0 h2 ∧ hI h2 7 8 = iv f) ∧ Wp (Re_sum_b7 N rec N 28 w 0 h) (fun _ h2 => FrQ h0 h2 ∧ hI h2 7 8 = iv f) ∧ Wp (Re_either_b7 N rec N 28 w 0 h) (fun _ h2 => FrQ h0 h2 ∧ hI h2 7 8 = iv f) := by
  obtain ⟨fu, rfl⟩ : ∃ g, N = g + 1 := ⟨N - 1, by omega⟩
  refine ⟨?_, ?_, ?_⟩
  · rw [Re_product_b7]
    exact Wp_ifn (by decide) (Wp_ck (by rw [k28 x.1]) (Wp_bde (hasMoreF x.1 hf e) (Wp_ifp rfl (Wp_ret ⟨f0, e⟩))))
  · rw [Re_sum_b7]
    exact Wp_ifn (by decide) (Wp_ck (by rw [k28 x.1]) (Wp_bde (hasMoreF x.1 hf e) (Wp_ifp rfl (Wp_ret ⟨f0, e⟩))))
  · rw [Re_either_b7]
    exact Wp_ifn (by decide) (Wp_ck (by rw [k28 x.1]) (Wp_bde (hasMoreF x.1 hf e) (Wp_ifp rfl (Wp_ret ⟨f0, e⟩))))
theorem productX {N : Nat} {T : Nat → Int} {L : Nat} {f : Int} {rec : Nat → Int32 → PH → Option (Unit × PH)} {w : Int32} (hN : 10 ≤ N) (hf : 0 < f ∧ f < 1048576) (r : PX T L f rec w) : PX T L f (Re_product N rec) w := by
  intro h x e
  unfold Re_product
  refine Wp_ck (by rw [k28 x.1]) (Wp_bd2 (r h x e) ?_)
  rintro - h1 ⟨f1, e1⟩
  exact (loopX hN hf f1 (f1.tx x) e1).1
theorem sumX {N : Nat} {T : Nat → Int} {L : Nat} {f : Int} {rec : Nat → Int32 → PH → Option (Unit × PH)} {w : Int32} (hN : 10 ≤ N) (hf : 0 < f ∧ f < 1048576) (r : PX T L f rec w) : PX T L f (Re_sum N rec) w := by
  intro h x e
  unfold Re_sum
  refine Wp_ck (by rw [k28 x.1]) (Wp_bd2 (productX hN hf r h x e) ?_)
  rintro - h1 ⟨f1, e1⟩
  exact (loopX hN hf f1 (f1.tx x) e1).2.1
theorem testX {N : Nat} {T : Nat → Int} {L : Nat} {f : Int} {rec : Nat → Int32 → PH → Option (Unit × PH)} {w : Int32} (hN : 10 ≤ N) (hf : 0 < f ∧ f < 1048576) (r : PX T L f rec w) : PX T L f (Re_test N rec) w := by
  intro h x e
  unfold Re_test
  refine Wp_ck (by rw [k28 x.1]) (Wp_bd2 (sumX hN hf r h x e) ?_)
  rintro - h1 ⟨f1, e1⟩
  have x1 := f1.tx x
  exact Wp_ck (by rw [k28 x1.1]) (Wp_bde (hasMoreF x1.1 hf e1) (Wp_ifp rfl (Wp_ret ⟨f1, e1⟩)))
theorem eitherX {N : Nat} {T : Nat → Int} {L : Nat} {f : Int} {rec : Nat → Int32 → PH → Option (Unit × PH)} {w : Int32} (hN : 10 ≤ N) (hf : 0 < f ∧ f < 1048576) (r : PX T L f rec w) : PX T L f (Re_either N rec) w := by
  intro h x e
  unfold Re_either
  refine Wp_ck (by rw [k28 x.1]) (Wp_bd2 (testX hN hf r h x e) ?_)
  rintro - h1 ⟨f1, e1⟩
  exact (loopX hN hf f1 (f1.tx x) e1).2.2
theorem partX {N : Nat} {T : Nat → Int} {L : Nat} {f : Int} (hN : 10 ≤ N) (hf : 0 < f ∧ f < 1048576) : ∀ n w : Nat, 6 ≤ n + w → 1 ≤ n → w ≤ 5 → PX T L f (Re_part N n) (iv w) := by
  intro n
  induction n with
  | zero => intro w _ h1; omega
  | succ n ih =>
    intro w hw _ w5 h x e
    have s := x.1
    have wr : ∀ (a : Option Nat) (v : Int32), a = some 16 → Wp (Re_part_b141 N (Re_part N n) a v 28 h) (fun _ h2 => FrQ h h2 ∧ hI h2 7 8 = iv f) := by
      rintro a v rfl
      unfold Re_part_b141
      refine Wp_bn rfl (Wp_ck (by rw [k16 s]) (Wp_bd2 (writeX s) ?_))
      rintro - h1 ⟨f1, e1⟩
      have x1 := f1.tx x
      have e1' : hI h1 7 8 = iv f := by rw [e1]; exact e
      exact Wp_ck (by rw [k28 x1.1]) (Wp_bn (p28_0 x1.1) (Wp_ck (by rw [k7 x1.1]) (Wp_bde (stepX x1.1 hf e1') (Wp_ret ⟨f1, e1'⟩))))
    have p93 : ∀ x2 x3 x4 : Int32, Wp (Re_part_b93 N (Re_part N n) 28 (iv w) x2 x3 x4 h) (fun _ h2 => FrQ h h2 ∧ hI h2 7 8 = iv f) := by
      intro x2 x3 x4
      unfold Re_part_b93
      refine Wp_if (fun c => ?_) (fun c => ?_)
      · rw [show (5 : Int32) = iv 5 from iv_lit _, iv_lt (by omega) (by omega) (by omega) (by omega)] at c
        have rc := ih (w + 1) (by omega) (by omega) (by omega)
        rw [show ((w + 1 : Nat) : Int) = (w : Int) + 1 from by omega, ← iv_add] at rc
        refine Wp_if (fun c3 => ?_) (fun c3 => ?_)
        · refine Wp_if (fun c4 => ?_) (fun c4 => ?_)
          · refine Wp_ck (by rw [k28 s]) (Wp_bn (p28_0 s) (Wp_ck (by rw [k7 s]) (Wp_bde (stepX s hf e) (Wp_ck (by rw [k28 s]) ?_))))
            rw [il1]
            refine Wp_bd2 (eitherX hN hf rc h x e) ?_
            rintro - h1 ⟨f1, e1⟩
            have s1 := (f1.tx x).1
            have fin : Wp (Re_part_b219 N (Re_part N n) 28 h1) (fun _ h2 => FrQ h h2 ∧ hI h2 7 8 = iv f) := by
              unfold Re_part_b219
              exact Wp_ck (by rw [k28 s1]) (Wp_bn (p28_0 s1) (Wp_ck (by rw [k7 s1]) (Wp_bde (stepX s1 hf e1) (Wp_ret ⟨f1, e1⟩))))
            refine Wp_ck (by rw [k28 s1]) (Wp_bn (p28_0 s1) (Wp_ck (by rw [k7 s1]) (Wp_if (fun c5 => fin) (fun c5 => ?_))))
            exact Wp_bde (blameX s1 hf e1) fin
          · refine Wp_ck (by rw [k28 s]) (Wp_bn (p28_0 s) (Wp_ck (by rw [k7 s]) (Wp_bde (stepX s hf e) (Wp_ck (by rw [k28 s]) ?_))))
            rw [il1]
            refine Wp_bd2 (rc h x e) ?_
            rintro - h1 ⟨f1, e1⟩
            have s1 := (f1.tx x).1
            refine Wp_ck (by rw [k28 s1]) (Wp_bn (p28_1 s1) (Wp_ck (by rw [k16 s1]) (Wp_bd2 (writeX s1) ?_)))
            rintro - h2 ⟨f2, e2⟩
            exact Wp_ret ⟨f1.tr f2, by rw [e2]; exact e1⟩
        · refine Wp_ck (by rw [k28 s]) (Wp_if (fun c4 => ?_) (fun c4 => ?_))
          · exact Wp_bn (p28_0 s) (Wp_ck (by rw [k7 s]) (wr _ _ (p28_1 s)))
          · exact Wp_bn (p28_0 s) (Wp_ck (by rw [k7 s]) (wr _ _ (p28_1 s)))
      · exact Wp_ck (by rw [k28 s]) (Wp_bn (p28_0 s) (Wp_ck (by rw [k7 s]) (Wp_bde (blameX s hf e) (Wp_ret ⟨FrQ.rf, e⟩))))
    have p49 : ∀ x2 x3 : Int32, Wp (Re_part_b49 N (Re_part N n) x3 28 (iv w) x2 h) (fun _ h2 => FrQ h h2 ∧ hI h2 7 8 = iv f) := by
      intro x2 x3
      unfold Re_part_b49
      obtain ⟨b, eb⟩ := isWordX (N := N) (w := 20) s
      refine Wp_ck (by rw [k28 s]) (Wp_bn (p28_0 s) (Wp_ck (by rw [k7 s]) (Wp_bde eb (Wp_if (fun c => ?_) (fun c => p93 _ _ _)))))
      refine Wp_if (fun c2 => ?_) (fun c2 => p93 _ _ _)
      refine Wp_ck (by rw [k28 s]) (Wp_bn (p28_0 s) (Wp_ck (by rw [k7 s]) (Wp_if (fun c3 => p93 _ _ _) (fun c3 => ?_))))
      exact Wp_bde (blameX s hf e) (Wp_ret ⟨FrQ.rf, e⟩)
    have p28 : ∀ x3 : Int32, Wp (Re_part_b28 N (Re_part N n) x3 28 (iv w) h) (fun _ h2 => FrQ h h2 ∧ hI h2 7 8 = iv f) := by
      intro x3
      unfold Re_part_b28 Re_part_b44
      refine Wp_ck (by rw [k28 s]) (Wp_bn (p28_0 s) (Wp_ck (by rw [k7 s]) (Wp_if (fun c3 => p49 _ _) (fun c3 => ?_))))
      exact Wp_if (fun c4 => p49 _ _) (fun c4 => p49 _ _)
    rw [Re_part]
    unfold Re_part_b27
    refine Wp_ck (by rw [k28 s]) (Wp_bn (p28_0 s) (Wp_ck (by rw [k7 s]) (Wp_if (fun c3 => ?_) (fun c3 => p28 _))))
    exact Wp_if (fun c4 => p28 _) (fun c4 => p28 _)
