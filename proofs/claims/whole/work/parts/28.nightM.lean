/-! THE PURE PROOFS, 6: the reference's house and night. -/
def HsM (H C : Nat → Int) (h : PH) : Prop := (∀ k : Nat, k < 18 → hI h 94 k = iv (H k)) ∧ (∀ k : Nat, k < 96 → hI h 95 k = iv (C k))
def NtM (n : Nat → Int) (h : PH) : Prop := ∀ k : Nat, k < 14 → hI h 116 k = iv (n k)
theorem HsM.fr {H C : Nat → Int} {h h2 : PH} {S : Nat → Prop} (x : HsM H C h) (f : FrS S h h2) (n0 : ¬ S 94) (n1 : ¬ S 95) : HsM H C h2 := ⟨fun k hk => (f.I n0 k).trans (x.1 k hk), fun k hk => (f.I n1 k).trans (x.2 k hk)⟩
theorem NtM.fr {n : Nat → Int} {h h2 : PH} {S : Nat → Prop} (x : NtM n h) (f : FrS S h h2) (n0 : ¬ S 116) : NtM n h2 := fun k hk => (f.I n0 k).trans (x k hk)
theorem inb_l (a n : Nat) (h2 : a < n) (h3 : a < 2147483648) : inb (no_index (@OfNat.ofNat Int32 a _)) n = true := by
  rw [iv_lit a]
  exact inb_iv (Int.natCast_nonneg a) (Int.ofNat_lt.mpr h2) (by show ((a : Nat) : Int) < _; omega)
theorem ix_l (a : Nat) (h3 : a < 2147483648) : ix (no_index (@OfNat.ofNat Int32 a _)) = @OfNat.ofNat Nat a _ := by
  rw [iv_lit a]
  have := ix_iv (a := (a : Int)) (Int.natCast_nonneg a) (by omega)
  rw [Int.toNat_natCast] at this
  exact this
theorem chM_eq {N : Nat} {H C : Nat → Int} {h : PH} {wet q k : Int} (s : Shp h) (hs : HsM H C h) (hw : wet = 0 ∨ wet = 1) (hq : 0 ≤ q ∧ q < 24) (hk : 0 ≤ k ∧ k < 4) : Mo_chanceOf N 92 (iv q) (iv k) (iv wet) h = some (iv (cw C wet q k), h) := by
  unfold Mo_chanceOf cw ch
  simp only [iv_lit, iv_mul, iv_add]
  simp only [show (iv wet = iv 0) ↔ wet = 0 from iv_eq (by omega) (by omega) (by omega) (by omega), show (iv k = iv 0) ↔ k = 0 from iv_eq (by omega) (by omega) (by omega) (by omega), show (iv k = iv 3) ↔ k = 3 from iv_eq (by omega) (by omega) (by omega) (by omega)]
  rw [ck_p (by rw [k92 s]), ck_p (by rw [k92 s]), ck_p (by rw [k92 s]), p92_11 s, bn_s, bn_s, bn_s, k95 s, ck_p rfl, ck_p rfl, ck_p rfl]
  by_cases c : wet = 0
  · rw [if_pos c, if_pos c, ck_p (inb_iv (by omega) (by omega) (by omega)), ix_iv (by omega) (by omega), hs.2 _ (by omega)]
  · rw [if_neg c, if_neg c]
    by_cases c0 : k = 0
    · rw [if_pos c0, if_pos c0, ck_p (inb_iv (by omega) (by omega) (by omega)), ck_p (inb_iv (by omega) (by omega) (by omega)), ix_iv (by omega) (by omega), ix_iv (by omega) (by omega), hs.2 _ (by omega), hs.2 _ (by omega), iv_add, Int.add_zero]
    · rw [if_neg c0, if_neg c0]
      by_cases c3 : k = 3
      · rw [if_pos c3, if_pos c3]
      · rw [if_neg c3, if_neg c3, ck_p (inb_iv (by omega) (by omega) (by omega)), ix_iv (by omega) (by omega), hs.2 _ (by omega), Int.add_assoc]
theorem nobM_eq {N : Nat} {H C : Nat → Int} {h : PH} {q : Int} (s : Shp h) (ho : HOK H C) (hs : HsM H C h) (hq : 0 ≤ q ∧ q ≤ 24) : Mo_nothing N 92 (iv q) h = some (iv (nob H q), h) := by
  obtain ⟨-, -, -, -, -, -, -, -, -, -, ⟨g1, g2⟩, -, -, -, -, -, g16, -⟩ := ho
  unfold Mo_nothing Mo_nothing_b32 nob
  simp (disch := decide) only [k92 s, p92_10 s, p92_11 s, p92_35 s, k94 s, k95 s, k116 s, ck_T, bn_s, inb_l, ix_l, eq_self]
  rw [hs.1 16 (by omega), hs.1 10 (by omega), hs.1 9 (by omega), hs.1 8 (by omega), il1]
  simp only [show (iv (H 16) = iv 1) ↔ H 16 = 1 from iv_eq (by omega) (by omega) (by omega) (by omega), show (iv q < iv (H 10)) ↔ q < H 10 from iv_lt (by omega) (by omega) (by omega) (by omega)]
  by_cases c : H 16 = 1
  · rw [if_pos c]
    by_cases c2 : q < H 10
    · rw [if_pos c2, if_neg (by omega)]
    · rw [if_neg c2, if_pos (by omega)]
  · rw [if_neg c, if_neg (by omega)]
theorem wsM_loop {N : Nat} {H C : Nat → Int} {h : PH} (s : Shp h) (ho : HOK H C) (hs : HsM H C h) : ∀ (m : Nat) (n k v : Int), n = k + m → 0 ≤ k → n ≤ 3 → ∀ fuel, m < fuel → Mo_worthOf_b4 N fuel 92 (iv n) (iv v) (iv k) h = some (iv (v + (wsm H n - wsm H k)), h) := by
  intro m
  induction m with
  | zero =>
    intro n k v e hk hn fuel hf
    obtain ⟨f, rfl⟩ : ∃ f, fuel = f + 1 := ⟨fuel - 1, by omega⟩
    rw [Mo_worthOf_b4]
    dsimp only
    rw [if_pos (by rw [iv_le (by omega) (by omega) (by omega) (by omega)]; omega), show n = k from by omega, Int.sub_self, Int.add_zero]
  | succ m ih =>
    intro n k v e hk hn fuel hf
    obtain ⟨f, rfl⟩ : ∃ f, fuel = f + 1 := ⟨fuel - 1, by omega⟩
    rw [Mo_worthOf_b4]
    dsimp only
    rw [if_neg (by rw [iv_le (by omega) (by omega) (by omega) (by omega)]; omega), ck_p (by rw [k92 s]), p92_10 s, bn_s, k94 s, ck_p rfl, il4, iv_add, ck_p (inb_iv (by omega) (by omega) (by omega)), ix_iv (by omega) (by omega), hs.1 _ (by omega), iv_add, il1, iv_add, ih n (k + 1) _ (by omega) (by omega) (by omega) f (by omega)]
    have c : k = 0 ∨ k = 1 ∨ k = 2 := by omega
    have hx : H (4 + k).toNat = wsm H (k + 1) - wsm H k := by
      rcases c with rfl | rfl | rfl <;> simp [wsm] <;> omega
    rw [hx]
    congr 3
    omega
theorem wsM_eq {N : Nat} {H C : Nat → Int} {h : PH} {n : Int} (hN : 100 ≤ N) (s : Shp h) (ho : HOK H C) (hs : HsM H C h) (hn : 0 ≤ n ∧ n ≤ 3) : Mo_worthOf N 92 (iv n) h = some (iv (wsm H n), h) := by
  unfold Mo_worthOf
  rw [il0, wsM_loop s ho hs n.toNat n 0 0 (by omega) (by omega) (by omega) N (by omega), show wsm H 0 = 0 from rfl]
  congr 3
  omega
theorem within_eq {N : Nat} {h : PH} {v a b : Int} (hv : -2147483648 ≤ v ∧ v < 2147483648) (ha : -2147483648 ≤ a ∧ a < 2147483648) (hb : -2147483648 ≤ b ∧ b < 2147483648) : Mo_within N (iv v) (iv a) (iv b) h = some (decide (a ≤ v ∧ v ≤ b), h) := by
  unfold Mo_within
  simp only [show (iv v < iv a) ↔ v < a from iv_lt (by omega) (by omega) (by omega) (by omega), show (iv b < iv v) ↔ b < v from iv_lt (by omega) (by omega) (by omega) (by omega)]
  by_cases c : v < a
  · rw [if_pos c, decide_eq_false (by omega)]
  · rw [if_neg c]
    by_cases c2 : b < v
    · rw [if_pos c2, decide_eq_false (by omega)]
    · rw [if_neg c2, decide_eq_true (by omega)]
theorem isWM_eq {N : Nat} {H C : Nat → Int} {h : PH} {here how : Int} (s : Shp h) (ho : HOK H C) (hs : HsM H C h) (hh : 0 ≤ here ∧ here ≤ 7) (hw : 0 ≤ how ∧ how ≤ 4) : Mo_isWordBy N 92 (iv how) (iv here) h = some (decide (isW H how here = 1), h) := by
  obtain ⟨-, -, -, -, -, -, -, -, -, -, -, ⟨w1, w2⟩, -⟩ := ho
  unfold Mo_isWordBy isW
  simp (disch := decide) only [k92 s, p92_10 s, p92_11 s, p92_35 s, k94 s, k95 s, k116 s, ck_T, bn_s, inb_l, ix_l, eq_self]
  rw [hs.1 11 (by omega), il3, within_eq (by omega) (by omega) (by omega), bd_s]
  simp only [bI_0]
  rw [il0]
  simp only [show (iv (H 11) ≤ iv 0) ↔ H 11 ≤ 0 from iv_le (by omega) (by omega) (by omega) (by omega), show (iv here ≤ iv 0) ↔ here ≤ 0 from iv_le (by omega) (by omega) (by omega) (by omega)]
  by_cases c1 : H 11 ≤ 0
  · rw [if_pos c1, if_neg (by omega)]; rfl
  · rw [if_neg c1]
    by_cases c2 : here ≤ 0
    · rw [if_pos c2, if_neg (by omega)]; rfl
    · rw [if_neg c2]
      by_cases c3 : H 11 ≤ how ∧ how ≤ 3
      · rw [if_neg (by simp [c3]), if_pos (by omega)]; rfl
      · rw [if_pos (by simpa using c3), if_neg (by omega)]; rfl
/-- what gives leaves as it was -/
def GvF (h h2 : PH) : Prop := FrS (fun b => b = 92) h h2 ∧ hJ h2 = hJ h ∧ hZ h2 = hZ h ∧ ∀ j, j ≠ 41 → j ≠ 42 → j ≠ 43 → hI h2 92 j = hI h 92 j
theorem GvF.rf {h : PH} : GvF h h := ⟨FrS.rf, rfl, rfl, fun _ _ _ _ => rfl⟩
theorem GvF.tr {h h1 h2 : PH} (a : GvF h h1) (b : GvF h1 h2) : GvF h h2 := ⟨a.1.tr b.1, b.2.1.trans a.2.1, b.2.2.1.trans a.2.2.1, fun j x y z => (b.2.2.2 j x y z).trans (a.2.2.2 j x y z)⟩
theorem GvF.w {h : PH} {i : Nat} {v : Int32} (k : i = 41 ∨ i = 42 ∨ i = 43) : GvF h (wI h 92 i v) := ⟨FrS.rf.aI rfl, rfl, rfl, fun j x y z => by rw [hI_wI, if_neg (by omega)]⟩
theorem givesM_loop {N : Nat} {H C : Nat → Int} (hN : 100 ≤ N) (ho : HOK H C) {q how t a here : Int} (hq : 0 ≤ q ∧ q < 24) (hw : 0 ≤ how ∧ how ≤ 4) (ht : 0 ≤ t ∧ t ≤ 1000) (ha : 0 ≤ a ∧ a ≤ 1000) (hh : 0 ≤ here ∧ here ≤ 7) : ∀ (m k : Nat) (h : PH), here = (k : Int) + m → Shp h → HsM H C h → hI h 92 41 = iv (gN H q how t a k).2.1 → hI h 92 42 = iv (gN H q how t a k).2.2.1 → hI h 92 43 = iv (gN H q how t a k).2.2.2 → ∀ fuel, m < fuel → Wp (Mo_gives_b23 N fuel 92 (iv q) (iv here) (iv how) (iv (gN H q how t a k).1) (iv k) h) (fun v h2 => v = iv (gN H q how t a (k + m)).1 ∧ GvF h h2 ∧ hI h2 92 41 = iv (gN H q how t a (k + m)).2.1 ∧ hI h2 92 42 = iv (gN H q how t a (k + m)).2.2.1 ∧ hI h2 92 43 = iv (gN H q how t a (k + m)).2.2.2) := by
  intro m
  induction m with
  | zero =>
    intro k h e s hs e1 e2 e3 fuel hf
    obtain ⟨f, rfl⟩ : ∃ f, fuel = f + 1 := ⟨fuel - 1, by omega⟩
    rw [Mo_gives_b23]
    exact Wp_ifp (by rw [iv_le (by omega) (by omega) (by omega) (by omega)]; omega) (Wp_ret ⟨rfl, GvF.rf, e1, e2, e3⟩)
  | succ m ih =>
    intro k h e s hs e1 e2 e3 fuel hf
    obtain ⟨f, rfl⟩ : ∃ f, fuel = f + 1 := ⟨fuel - 1, by omega⟩
    have gb := gN_b ho (q := q) hw ht.1 ha.1 k
    have step : gN H q how t a (k + 1) = gst H q how (gN H q how t a k) := rfl
    have go : ∀ h2 : PH, GvF h h2 → hI h2 92 41 = iv (gN H q how t a (k + 1)).2.1 → hI h2 92 42 = iv (gN H q how t a (k + 1)).2.2.1 → hI h2 92 43 = iv (gN H q how t a (k + 1)).2.2.2 → Wp (Mo_gives_b140 N (Mo_gives_b23 N f) 92 (iv q) (iv here) (iv how) (iv (gN H q how t a (k + 1)).1) (iv k) h2) (fun v h3 => v = iv (gN H q how t a (k + (m + 1))).1 ∧ GvF h h3 ∧ hI h3 92 41 = iv (gN H q how t a (k + (m + 1))).2.1 ∧ hI h3 92 42 = iv (gN H q how t a (k + (m + 1))).2.2.1 ∧ hI h3 92 43 = iv (gN H q how t a (k + (m + 1))).2.2.2) := by
      intro h2 g x1 x2 x3
      unfold Mo_gives_b140
      rw [il1, iv_add]
      have r := ih (k + 1) h2 (by omega) (g.1.shp s) (hs.fr g.1 (by omega) (by omega)) x1 x2 x3 f (by omega)
      rw [show ((k + 1 : Nat) : Int) = (k : Int) + 1 from by omega, show k + 1 + m = k + (m + 1) from by omega] at r
      exact Wp_mono r (fun v h3 p => ⟨p.1, g.tr p.2.1, p.2.2⟩)
    have rest : ¬ (how = 4 ∧ 0 < (gN H q how t a k).2.2.1) → Wp (Mo_gives_b65 N (Mo_gives_b23 N f) 92 (iv q) (iv here) (iv how) (iv (gN H q how t a k).1) (iv k) h) (fun v h3 => v = iv (gN H q how t a (k + (m + 1))).1 ∧ GvF h h3 ∧ hI h3 92 41 = iv (gN H q how t a (k + (m + 1))).2.1 ∧ hI h3 92 42 = iv (gN H q how t a (k + (m + 1))).2.2.1 ∧ hI h3 92 43 = iv (gN H q how t a (k + (m + 1))).2.2.2) := by
      intro c
      have key : ∀ n : Int, n = (if how = 4 then 0 else min how (gN H q how t a k).2.1) → Wp (Mo_gives_b82 N (Mo_gives_b23 N f) (iv n) 92 (iv q) (iv here) (iv how) (iv (gN H q how t a k).1) (iv k) h) (fun v h3 => v = iv (gN H q how t a (k + (m + 1))).1 ∧ GvF h h3 ∧ hI h3 92 41 = iv (gN H q how t a (k + (m + 1))).2.1 ∧ hI h3 92 42 = iv (gN H q how t a (k + (m + 1))).2.2.1 ∧ hI h3 92 43 = iv (gN H q how t a (k + (m + 1))).2.2.2) := by
        intro n hn
        have hn2 : 0 ≤ n ∧ n ≤ 3 := by rw [hn]; split <;> omega
        have g1 : gN H q how t a (k + 1) = ((gN H q how t a k).1 + (if n = 0 then 0 - nob H q else wsm H n), (gN H q how t a k).2.1 - n, (gN H q how t a k).2.2.1, (gN H q how t a k).2.2.2 + (if n = 0 then 1 else 0)) := by
          rw [step, gst, if_neg c, ← hn]
        rw [g1] at go
        unfold Mo_gives_b82 Mo_gives_b118 Mo_gives_b136
        refine Wp_ck (by rw [k92 s]) (Wp_lt ?_)
        rw [e1, iv_sub]
        have f1 : GvF h (wI h 92 41 (iv ((gN H q how t a k).2.1 - n))) := GvF.w (Or.inl rfl)
        have s1 := f1.1.shp s
        have hs1 := hs.fr f1.1 (by omega) (by omega)
        have y1 : hI (wI h 92 41 (iv ((gN H q how t a k).2.1 - n))) 92 41 = iv ((gN H q how t a k).2.1 - n) := by simp only [hI_wI, and_true, true_and, and_false, false_and, if_true, if_false, eq_self, ite_true, ite_false]; try simp
        have y2 : hI (wI h 92 41 (iv ((gN H q how t a k).2.1 - n))) 92 42 = iv (gN H q how t a k).2.2.1 := by simp only [hI_wI, Nat.reduceEqDiff, and_true, true_and, and_false, false_and, if_true, if_false, eq_self, ite_true, ite_false]; exact e2
        have y3 : hI (wI h 92 41 (iv ((gN H q how t a k).2.1 - n))) 92 43 = iv (gN H q how t a k).2.2.2 := by simp only [hI_wI, Nat.reduceEqDiff, and_true, true_and, and_false, false_and, if_true, if_false, eq_self, ite_true, ite_false]; exact e3
        generalize wI h 92 41 (iv ((gN H q how t a k).2.1 - n)) = h1 at f1 s1 hs1 y1 y2 y3 ⊢
        rw [il0, il1]
        simp only [show (iv n = iv 0) ↔ n = 0 from iv_eq (by omega) (by omega) (by omega) (by omega)]
        by_cases c0 : n = 0
        · refine Wp_ifp c0 (Wp_bde (nobM_eq s1 ho hs1 (by omega)) (Wp_ck (by rw [k92 s1]) (Wp_ifp c0 (Wp_ck (by rw [k92 s1]) (Wp_lt ?_)))))
          rw [iv_sub, iv_add, y3, iv_add]
          rw [if_pos c0, if_pos c0] at go
          refine go _ (f1.tr (GvF.w (Or.inr (Or.inr rfl)))) ?_ ?_ ?_
          · simp only [hI_wI, Nat.reduceEqDiff, and_true, true_and, and_false, false_and, if_true, if_false, eq_self, ite_true, ite_false]; exact y1
          · simp only [hI_wI, Nat.reduceEqDiff, and_true, true_and, and_false, false_and, if_true, if_false, eq_self, ite_true, ite_false]; exact y2
          · simp only [hI_wI, and_true, true_and, and_false, false_and, if_true, if_false, eq_self, ite_true, ite_false]; try simp
        · refine Wp_ifn c0 (Wp_bde (wsM_eq hN s1 ho hs1 (by omega)) (Wp_ck (by rw [k92 s1]) (Wp_ifn c0 (Wp_ck (by rw [k92 s1]) (Wp_lt ?_)))))
          rw [iv_add, y3, iv_add]
          rw [if_neg c0, if_neg c0] at go
          refine go _ (f1.tr (GvF.w (Or.inr (Or.inr rfl)))) ?_ ?_ ?_
          · simp only [hI_wI, Nat.reduceEqDiff, and_true, true_and, and_false, false_and, if_true, if_false, eq_self, ite_true, ite_false]; exact y1
          · simp only [hI_wI, Nat.reduceEqDiff, and_true, true_and, and_false, false_and, if_true, if_false, eq_self, ite_true, ite_false]; exact y2
          · simp only [hI_wI, and_true, true_and, and_false, false_and, if_true, if_false, eq_self, ite_true, ite_false]; try simp
      unfold Mo_gives_b65
      rw [il4]
      simp only [show (iv how = iv 4) ↔ how = 4 from iv_eq (by omega) (by omega) (by omega) (by omega)]
      rw [e1, iv_mn (by omega) (by omega) (by omega) (by omega), il0]
      refine Wp_if (fun c4 => ?_) (fun c4 => Wp_ck (by rw [k92 s]) ?_)
      · exact key 0 (by rw [if_pos c4])
      · exact key _ (by rw [if_neg c4])
    rw [Mo_gives_b23]
    refine Wp_ifn (by rw [iv_le (by omega) (by omega) (by omega) (by omega)]; omega) ?_
    rw [il4]
    simp only [show (iv how = iv 4) ↔ how = 4 from iv_eq (by omega) (by omega) (by omega) (by omega)]
    rw [e2, il0]
    simp only [show (iv (gN H q how t a k).2.2.1 ≤ iv 0) ↔ (gN H q how t a k).2.2.1 ≤ 0 from iv_le (by omega) (by omega) (by omega) (by omega)]
    refine Wp_if (fun c4 => Wp_ck (by rw [k92 s]) (Wp_if (fun ca => rest (by omega)) (fun ca => ?_))) (fun c4 => rest (by omega))
    have g1 : gN H q how t a (k + 1) = ((gN H q how t a k).1 + H 3, (gN H q how t a k).2.1, (gN H q how t a k).2.2.1 - 1, (gN H q how t a k).2.2.2) := by
      rw [step, gst, if_pos (by omega)]
    rw [g1] at go
    refine Wp_lt (Wp_bn (by rw [hR_wI, p92_10 s]) (Wp_ck (by rw [hK_wI, k94 s]) (Wp_ck (by rw [hK_wI, k94 s]; exact inb_l 3 36 (by omega) (by omega)) ?_)))
    rw [ix_l 3 (by omega), il1, iv_sub, hI_wI, if_neg (by omega), hs.1 3 (by omega), iv_add]
    refine go _ (GvF.w (Or.inr (Or.inl rfl))) ?_ ?_ ?_
    · simp only [hI_wI, Nat.reduceEqDiff, and_true, true_and, and_false, false_and, if_true, if_false, eq_self, ite_true, ite_false]; exact e1
    · simp only [hI_wI, and_true, true_and, and_false, false_and, if_true, if_false, eq_self, ite_true, ite_false]; try simp
    · simp only [hI_wI, Nat.reduceEqDiff, and_true, true_and, and_false, false_and, if_true, if_false, eq_self, ite_true, ite_false]; exact e3
theorem givesM {N : Nat} {H C : Nat → Int} {h : PH} (hN : 100 ≤ N) (ho : HOK H C) {q how t a here : Int} (hq : 0 ≤ q ∧ q < 24) (hw : 0 ≤ how ∧ how ≤ 4) (ht : 0 ≤ t ∧ t ≤ 1000) (ha : 0 ≤ a ∧ a ≤ 1000) (hh : 0 ≤ here ∧ here ≤ 7) (s : Shp h) (hs : HsM H C h) : Wp (Mo_gives N 92 (iv q) (iv here) (iv how) (iv t) (iv a) h) (fun v h2 => v = iv (gv H q here how t a) ∧ GvF h h2 ∧ hI h2 92 41 = iv (gt H q here how t a) ∧ hI h2 92 42 = iv (ga H q here how t a) ∧ hI h2 92 43 = iv (glk H q here how t a)) := by
  unfold Mo_gives gv gt ga glk
  refine Wp_ck (by rw [k92 s]) (Wp_lt (Wp_lt (Wp_lt ?_)))
  have f : GvF h (wI (wI (wI h 92 41 (iv t)) 92 42 (iv a)) 92 43 0) := ((GvF.w (Or.inl rfl)).tr (GvF.w (Or.inr (Or.inl rfl)))).tr (GvF.w (Or.inr (Or.inr rfl)))
  have r := givesM_loop hN ho hq hw ht ha hh here.toNat 0 _ (by omega) (f.1.shp s) (hs.fr f.1 (by omega) (by omega)) (by simp only [hI_wI, Nat.reduceEqDiff, and_true, true_and, and_false, false_and, if_true, if_false, eq_self, ite_true, ite_false]; rfl) (by simp only [hI_wI, Nat.reduceEqDiff, and_true, true_and, and_false, false_and, if_true, if_false, eq_self, ite_true, ite_false]; rfl) (by simp only [hI_wI, and_true, true_and, and_false, false_and, if_true, if_false, eq_self, ite_true, ite_false]; rw [il0]; try rfl) N (by omega)
  rw [Nat.zero_add] at r
  rw [il0]
  rw [il0] at r f
  exact Wp_mono r (fun v h3 p => ⟨p.1, f.tr p.2.1, p.2.2⟩)
theorem canGM {N : Nat} {H n : Nat → Int} {h : PH} (s : Shp h) (nt : NtM n h) (nk : NOK H n) : Mo_canGive N 92 h = some (decide (0 < n 3 ∧ n 4 = 0), h) := by
  obtain ⟨-, -, -, ⟨q1, q2⟩, c4, -⟩ := nk
  unfold Mo_canGive
  simp (disch := decide) only [k92 s, p92_10 s, p92_11 s, p92_35 s, k94 s, k95 s, k116 s, ck_T, bn_s, inb_l, ix_l, eq_self]
  rw [nt 3 (by omega), nt 4 (by omega), il0]
  simp only [show (iv (n 3) ≤ iv 0) ↔ n 3 ≤ 0 from iv_le (by omega) (by omega) (by omega) (by omega), show (iv (n 4) = iv 0) ↔ n 4 = 0 from iv_eq (by omega) (by omega) (by omega) (by omega)]
  by_cases c : n 3 ≤ 0
  · rw [if_pos c, decide_eq_false (by omega)]
  · rw [if_neg c]
    by_cases e : n 4 = 0
    · rw [if_pos e, decide_eq_true (by omega)]
    · rw [if_neg e, decide_eq_false (by omega)]
theorem overM {N : Nat} {H C n : Nat → Int} {h : PH} (s : Shp h) (ho : HOK H C) (hs : HsM H C h) (nt : NtM n h) (nk : NOK H n) : Mo_isOver N 92 h = some (decide (n 0 = H 0), h) := by
  obtain ⟨⟨q1, q2⟩, -⟩ := nk
  obtain ⟨⟨h1, h2⟩, -⟩ := ho
  unfold Mo_isOver
  simp (disch := decide) only [k92 s, p92_10 s, p92_11 s, p92_35 s, k94 s, k95 s, k116 s, ck_T, bn_s, inb_l, ix_l, eq_self]
  rw [nt 0 (by omega), hs.1 0 (by omega)]
  simp only [show (iv (n 0) = iv (H 0)) ↔ n 0 = H 0 from iv_eq (by omega) (by omega) (by omega) (by omega)]
  by_cases c : n 0 = H 0
  · rw [if_pos c, decide_eq_true c]
  · rw [if_neg c, decide_eq_false c]
theorem canCM {N : Nat} {H C n : Nat → Int} {h : PH} {many : Int} (s : Shp h) (ho : HOK H C) (hs : HsM H C h) (nt : NtM n h) (nk : NOK H n) (hm : -2147483648 ≤ many ∧ many < 2147483648) : Mo_canCome N 92 (iv many) h = some (decide (n 0 ≠ H 0 ∧ n 6 = 0 ∧ n 5 = 0 ∧ n 7 ≤ many ∧ many ≤ 3 + n 7), h) := by
  have ov := overM (N := N) s ho hs nt nk
  obtain ⟨-, -, -, -, -, i5, i6, i7, -⟩ := nk
  unfold Mo_canCome
  rw [ck_p (by rw [k92 s]), ov, bd_s]
  simp (disch := decide) only [k92 s, p92_10 s, p92_11 s, p92_35 s, k94 s, k95 s, k116 s, ck_T, bn_s, inb_l, ix_l, eq_self]
  rw [nt 6 (by omega), nt 5 (by omega), nt 7 (by omega), il3, iv_add, within_eq hm (by omega) (by omega), bd_s]
  simp only [bI_0]
  rw [il0]
  simp only [show (iv (n 6) = iv 0) ↔ n 6 = 0 from iv_eq (by omega) (by omega) (by omega) (by omega), show (iv (n 5) = iv 0) ↔ n 5 = 0 from iv_eq (by omega) (by omega) (by omega) (by omega)]
  by_cases c : n 0 = H 0
  · rw [decide_eq_true c, if_neg (by decide), decide_eq_false (by omega)]
  · rw [decide_eq_false c, if_pos rfl]
    by_cases c6 : n 6 = 0
    · rw [if_pos c6]
      by_cases c5 : n 5 = 0
      · rw [if_pos c5]
        by_cases cm : n 7 ≤ many ∧ many ≤ 3 + n 7
        · rw [decide_eq_true cm, if_neg (by decide), decide_eq_true (by omega)]
        · rw [decide_eq_false cm, if_pos rfl, decide_eq_false (by omega)]
      · rw [if_neg c5, decide_eq_false (by omega)]
    · rw [if_neg c6, decide_eq_false (by omega)]
theorem Wp_ltr {α : Type} {v : α} {h : PH} {Q : α → PH → Prop} (k : Q v h) : Wp (lt0 h (fun h2 => some (v, h2))) Q := ⟨v, h, rfl, k⟩
theorem NtM.up {n : Nat → Int} {h : PH} {k : Nat} {v : Int} (x : NtM n h) : NtM (up n k v) (wI h 116 k (iv v)) := by
  intro j hj
  rw [hI_wI]
  unfold _root_.Jvm.Pilot.CLastsEveningLaw_law_r8855_d18285.up
  by_cases c : j = k
  · rw [if_pos ⟨rfl, c⟩, if_pos c]
  · rw [if_neg (fun e => c e.2), if_neg c]
    exact x j hj
theorem up_self (n : Nat → Int) (k : Nat) : up n k (n k) = n := by
  funext j
  unfold up
  split
  · next e => rw [e]
  · rfl
theorem comesM {N : Nat} {H C n : Nat → Int} {h : PH} {many : Int} (s : Shp h) (ho : HOK H C) (hs : HsM H C h) (nt : NtM n h) (nk : NOK H n) (hq : n 0 < H 0) (hm : 0 ≤ many - n 7 ∧ many - n 7 ≤ 3) : Wp (Mo_comes N 92 (iv many) h) (fun _ h2 => FrS (fun b => b = 116) h h2 ∧ NtM (comeM C n many) h2) := by
  have hc1 := cw_b ho (wet := 1) (q := n 0) (k := many - n 7) ⟨nk.1.1, by have := ho.1.2; omega⟩ (by omega)
  have hc0 := cw_b ho (wet := 0) (q := n 0) (k := many - n 7) ⟨nk.1.1, by have := ho.1.2; omega⟩ (by omega)
  obtain ⟨⟨q1, q2⟩, -, -, hh, i4, i5, i6, i7, i8, r, -, -⟩ := nk
  have h02 := ho.1.2
  have rb := rain_b r hc1 hc0
  have tw : (n 13 * cw C 1 (n 0) (many - n 7)).tdiv 10 = wetN C n (many - n 7) := rfl
  have td : ((1000000 - n 13) * cw C 0 (n 0) (many - n 7)).tdiv 10 = dryN C n (many - n 7) := rfl
  have w0 : 0 ≤ wetN C n (many - n 7) ∧ wetN C n (many - n 7) ≤ 1000000 := by rw [← tw, td10 rb.1.1]; omega
  have d0 : 0 ≤ dryN C n (many - n 7) ∧ dryN C n (many - n 7) ≤ 1000000 := by rw [← td, td10 rb.2.1]; omega
  have n7 := nt 7 (by omega)
  have n9 := nt 9 (by omega)
  unfold Mo_comes
  simp only [lt0_s, hK_wI, hK_wZ, hK_wJ, hK_wR, hR_wI, hR_wZ, hR_wJ, hR_wR]
  simp (disch := decide) only [k92 s, p92_10 s, p92_11 s, p92_35 s, k94 s, k95 s, k116 s, ck_T, bn_s, inb_l, ix_l, eq_self]
  simp only [hI_wI, Nat.reduceEqDiff, and_true, true_and, and_false, false_and, if_true, if_false, eq_self, ite_true, ite_false, n7, n9, iv_add, iv_sub]
  rw [il1]
  have f : FrS (fun b => b = 116) h (wI (wI (wI h 116 3 (iv many)) 116 5 (iv 1)) 116 9 (iv (n 9 + many))) := FrS.rf.i1.i1.i1
  have m1 : NtM (up (up (up n 3 many) 5 1) 9 (n 9 + many)) (wI (wI (wI h 116 3 (iv many)) 116 5 (iv 1)) 116 9 (iv (n 9 + many))) := nt.up.up.up
  have e0 : hI h 116 0 = iv (n 0) := nt 0 (by omega)
  have e13 : hI h 116 13 = iv (n 13) := nt 13 (by omega)
  have r0 : hI (wI (wI (wI h 116 3 (iv many)) 116 5 (iv 1)) 116 9 (iv (n 9 + many))) 116 0 = iv (n 0) := m1 0 (by omega)
  have r13 : hI (wI (wI (wI h 116 3 (iv many)) 116 5 (iv 1)) 116 9 (iv (n 9 + many))) 116 13 = iv (n 13) := m1 13 (by omega)
  generalize wI (wI (wI h 116 3 (iv many)) 116 5 (iv 1)) 116 9 (iv (n 9 + many)) = h1 at f m1 r0 r13 ⊢
  have s1 := f.shp s
  have hs1 := hs.fr f (by omega) (by omega)
  rw [e0, e13]
  refine Wp_bde (chM_eq s1 hs1 (Or.inr rfl) (by omega) (by omega)) (Wp_ck (by decide) (Wp_ck (by rw [k92 s1]) ?_))
  rw [p92_35 s1]
  simp (disch := decide) only [bn_s, k116 s1, ck_T, inb_l, ix_l, eq_self]
  rw [r0, r13, il0]
  refine Wp_bde (chM_eq s1 hs1 (Or.inl rfl) (by omega) (by omega)) (Wp_ck (by decide) ?_)
  rw [iv_wide (by omega) (by omega), iv_wide (by omega) (by omega), iv_wide (by omega) (by omega), jl1000000, jl10, jv_sub, jv_mul, jv_mul, jv_div (by omega) (by omega) (by omega) (by omega), jv_div (by omega) (by omega) (by omega) (by omega), tw, td, jv_add]
  have lc : (lg_cmp (jv (wetN C n (many - n 7) + dryN C n (many - n 7))) 0 ≤ iv 0) ↔ wetN C n (many - n 7) + dryN C n (many - n 7) ≤ 0 := by
    rw [← il0, lg_cmp_le, jl0, jv_le (by omega) (by omega) (by omega) (by omega)]
  simp only [lc]
  refine Wp_if (fun hc => ?_) (fun hc => ?_)
  · refine Wp_ret ⟨f, ?_⟩
    have e : comeM C n many = up (up (up n 3 many) 5 1) 9 (n 9 + many) := by
      unfold comeM
      rw [if_neg (by omega)]
      exact up_self (up (up (up n 3 many) 5 1) 9 (n 9 + many)) 13
    rw [e]
    exact m1
  · refine Wp_ck (by rw [k92 s1]) (Wp_ck (by rw [jl0, jv_eq (by omega) (by omega) (by omega) (by omega)]; omega) ?_)
    rw [p92_35 s1]
    simp (disch := decide) only [bn_s, k116 s1, ck_T, inb_l, ix_l, eq_self]
    rw [jv_mul, jv_div (by omega) (by omega) (by omega) (by omega), jv_narrow]
    refine Wp_ltr ⟨f.i1, ?_⟩
    unfold comeM
    rw [if_pos (by omega)]
    exact m1.up
def S2 (b : Nat) : Prop := b = 92 ∨ b = 116
/-- what handing out and passing leaves as it was -/
def HoF (h h2 : PH) : Prop := FrS S2 h h2 ∧ hJ h2 = hJ h ∧ hZ h2 = hZ h ∧ ∀ j, j ≠ 41 → j ≠ 42 → j ≠ 43 → hI h2 92 j = hI h 92 j
theorem HoF.rf {h : PH} : HoF h h := ⟨FrS.rf, rfl, rfl, fun _ _ _ _ => rfl⟩
theorem HoF.tr {h h1 h2 : PH} (a : HoF h h1) (b : HoF h1 h2) : HoF h h2 := ⟨a.1.tr b.1, b.2.1.trans a.2.1, b.2.2.1.trans a.2.2.1, fun j x y z => (b.2.2.2 j x y z).trans (a.2.2.2 j x y z)⟩
theorem GvF.ho {h h2 : PH} (g : GvF h h2) : HoF h h2 := ⟨g.1.up (fun _ e => Or.inl e), g.2.1, g.2.2.1, g.2.2.2⟩
theorem HoF.w {h0 h : PH} {i : Nat} {v : Int32} (g : HoF h0 h) : HoF h0 (wI h 116 i v) := g.tr ⟨FrS.rf.aI (Or.inr rfl), rfl, rfl, fun j _ _ _ => by rw [hI_wI, if_neg (by omega)]⟩
theorem HoF.shp {h h2 : PH} (f : HoF h h2) (s : Shp h) : Shp h2 := f.1.shp s
theorem HsM.ho {H C : Nat → Int} {h h2 : PH} (x : HsM H C h) (f : HoF h h2) : HsM H C h2 := x.fr f.1 (by unfold S2; omega) (by unfold S2; omega)
theorem handsM {N : Nat} {H C n : Nat → Int} {h : PH} {how : Int} (hN : 100 ≤ N) (s : Shp h) (ho : HOK H C) (hs : HsM H C h) (nt : NtM n h) (nk : NOK H n) (hq : n 0 < H 0) (hw : 0 ≤ how ∧ how ≤ 4) : Wp (Mo_handsOut N 92 (iv how) h) (fun v h2 => v = iv (gv H (n 0) (n 3) how (n 1) (n 2)) ∧ HoF h h2 ∧ NtM (handM H n how) h2) := by
  have ho2 := ho
  obtain ⟨⟨q1, q2⟩, ⟨t1, t2⟩, ⟨a1, a2⟩, hh, -⟩ := nk
  obtain ⟨⟨h01, h02⟩, ⟨h11, h12⟩, ⟨h21, h22⟩, -⟩ := ho
  have n0 := nt 0 (by omega)
  have n1 := nt 1 (by omega)
  have n2 := nt 2 (by omega)
  have n3 := nt 3 (by omega)
  unfold Mo_handsOut
  simp (disch := decide) only [k92 s, p92_10 s, p92_11 s, p92_35 s, k94 s, k95 s, k116 s, ck_T, bn_s, inb_l, ix_l, eq_self]
  rw [n0, n1, n2, n3]
  refine Wp_bd2 (givesM hN ho2 (by omega) hw (by omega) (by omega) (by omega) s hs) ?_
  rintro v h1 ⟨rfl, g, g1, g2, g3⟩
  have s1 := g.1.shp s
  have m1 := nt.fr g.1 (by omega)
  have n10 := m1 10 (by omega)
  have n11 := m1 11 (by omega)
  have n31 := m1 3 (by omega)
  have hs1 := hs.fr g.1 (by omega) (by omega)
  simp only [lt0_s, hK_wI, hK_wZ, hK_wJ, hK_wR, hR_wI, hR_wZ, hR_wJ, hR_wR]
  simp (disch := decide) only [k92 s1, p92_35 s1, k116 s1, ck_T, bn_s, inb_l, ix_l, eq_self]
  simp only [hI_wI, Nat.reduceEqDiff, and_true, true_and, and_false, false_and, if_true, if_false, eq_self, ite_true, ite_false, g1, g2, g3, n10, n11, n31, iv_add]
  rw [il1]
  have f : HoF h (wI (wI (wI (wI (wI h1 116 1 (iv (gt H (n 0) (n 3) how (n 1) (n 2)))) 116 2 (iv (ga H (n 0) (n 3) how (n 1) (n 2)))) 116 10 (iv (n 10 + glk H (n 0) (n 3) how (n 1) (n 2)))) 116 11 (iv (n 11 + gv H (n 0) (n 3) how (n 1) (n 2)))) 116 4 (iv 1)) := g.ho.w.w.w.w.w
  have m2 : NtM (up (up (up (up (up n 1 (gt H (n 0) (n 3) how (n 1) (n 2))) 2 (ga H (n 0) (n 3) how (n 1) (n 2))) 10 (n 10 + glk H (n 0) (n 3) how (n 1) (n 2))) 11 (n 11 + gv H (n 0) (n 3) how (n 1) (n 2))) 4 1) (wI (wI (wI (wI (wI h1 116 1 (iv (gt H (n 0) (n 3) how (n 1) (n 2)))) 116 2 (iv (ga H (n 0) (n 3) how (n 1) (n 2)))) 116 10 (iv (n 10 + glk H (n 0) (n 3) how (n 1) (n 2)))) 116 11 (iv (n 11 + gv H (n 0) (n 3) how (n 1) (n 2)))) 116 4 (iv 1)) := m1.up.up.up.up.up
  generalize (wI (wI (wI (wI (wI h1 116 1 (iv (gt H (n 0) (n 3) how (n 1) (n 2)))) 116 2 (iv (ga H (n 0) (n 3) how (n 1) (n 2)))) 116 10 (iv (n 10 + glk H (n 0) (n 3) how (n 1) (n 2)))) 116 11 (iv (n 11 + gv H (n 0) (n 3) how (n 1) (n 2)))) 116 4 (iv 1)) = h2 at f m2 ⊢
  have s2 := f.shp s
  refine Wp_bde (isWM_eq s2 ho2 (hs.ho f) (by omega) hw) ?_
  simp only [bI_0]
  unfold Mo_handsOut_b107
  simp (disch := decide) only [k116 s2, ck_T, bn_s, inb_l, ix_l, eq_self]
  rcases isW_01 H how (n 3) with e | e
  · rw [e, if_pos (by decide), il0]
    refine Wp_ltr ⟨rfl, f.w, ?_⟩
    unfold handM
    rw [e]
    exact m2.up
  · rw [e, if_neg (by decide)]
    refine Wp_ltr ⟨rfl, f.w, ?_⟩
    unfold handM
    rw [e]
    exact m2.up
theorem passesM {N : Nat} {H C n : Nat → Int} {h : PH} (hN : 100 ≤ N) (s : Shp h) (ho : HOK H C) (hs : HsM H C h) (nt : NtM n h) (nk : NOK H n) (hq : n 0 < H 0) : Wp (Mo_passes N 92 h) (fun _ h2 => HoF h h2 ∧ NtM (passM H n) h2) := by
  have tail : ∀ (n : Nat → Int) (h : PH), Shp h → HsM H C h → NtM n h → NOK H n → n 0 < H 0 → Wp (Mo_passes_b57 N 92 h) (fun _ h2 => HoF h h2 ∧ NtM (endM H (stepM n)) h2) := by
    intro n h s hs nt nk hq
    have nk2 := stepM_ok nk hq
    have n0 := nt 0 (by omega)
    have n8 := nt 8 (by omega)
    unfold Mo_passes_b57
    simp only [lt0_s, hK_wI, hK_wZ, hK_wJ, hK_wR, hR_wI, hR_wZ, hR_wJ, hR_wR]
    simp (disch := decide) only [k92 s, p92_10 s, p92_11 s, p92_35 s, k94 s, k95 s, k116 s, ck_T, bn_s, inb_l, ix_l, eq_self]
    simp only [hI_wI, Nat.reduceEqDiff, and_true, true_and, and_false, false_and, if_true, if_false, eq_self, ite_true, ite_false, n0, n8]
    simp only [il0, il1, iv_add]
    have f : HoF h (wI (wI (wI (wI (wI (wI h 116 0 (iv (n 0 + 1))) 116 3 (iv 0)) 116 4 (iv 0)) 116 5 (iv 0)) 116 7 (iv (n 8))) 116 8 (iv 0)) := HoF.rf.w.w.w.w.w.w
    have m : NtM (stepM n) (wI (wI (wI (wI (wI (wI h 116 0 (iv (n 0 + 1))) 116 3 (iv 0)) 116 4 (iv 0)) 116 5 (iv 0)) 116 7 (iv (n 8))) 116 8 (iv 0)) := nt.up.up.up.up.up.up
    generalize (wI (wI (wI (wI (wI (wI h 116 0 (iv (n 0 + 1))) 116 3 (iv 0)) 116 4 (iv 0)) 116 5 (iv 0)) 116 7 (iv (n 8))) 116 8 (iv 0)) = h1 at f m ⊢
    have s1 := f.shp s
    have hs1 := hs.ho f
    refine Wp_bde (overM s1 ho hs1 m nk2) ?_
    rw [← il0]
    simp only [bI_0]
    unfold endM
    by_cases c : stepM n 0 = H 0
    · rw [if_neg (by simp [c]), if_pos c]
      simp (disch := decide) only [k92 s1, p92_10 s1, p92_35 s1, k94 s1, k116 s1, ck_T, bn_s, inb_l, ix_l, eq_self]
      rw [m 11 (by omega), m 1 (by omega), hs1.1 7 (by omega), iv_mul, iv_sub]
      exact Wp_ltr ⟨f.w, m.up⟩
    · rw [if_pos (by simp [c]), if_neg c]
      exact Wp_ret ⟨f, m⟩
  have mid : ∀ (n : Nat → Int) (h : PH), Shp h → HsM H C h → NtM n h → NOK H n → n 0 < H 0 → Wp (Mo_passes_b13 N 92 h) (fun _ h2 => HoF h h2 ∧ NtM (endM H (stepM (darkM H n))) h2) := by
    intro n h s hs nt nk hq
    have nk2 := darkM_ok nk
    obtain ⟨⟨q1, q2⟩, -, -, -, -, -, i6, -, -, -, p, -⟩ := nk
    have h02 := ho.1.2
    unfold Mo_passes_b13
    simp (disch := decide) only [k92 s, p92_10 s, p92_11 s, p92_35 s, k94 s, k95 s, k116 s, ck_T, bn_s, inb_l, ix_l, eq_self]
    rw [nt 6 (by omega), nt 0 (by omega), nt 12 (by omega), nt 11 (by omega), hs.1 12 (by omega), il1]
    simp only [show (iv (n 6) = iv 1) ↔ n 6 = 1 from iv_eq (by omega) (by omega) (by omega) (by omega), show (iv (n 0) < iv (n 12)) ↔ n 0 < n 12 from iv_lt (by omega) (by omega) (by omega) (by omega)]
    unfold darkM at nk2 ⊢
    by_cases c6 : n 6 = 1
    · rw [if_pos c6]
      by_cases c12 : n 0 < n 12
      · rw [if_pos c12, if_neg (by omega)]
        rw [if_neg (by omega)] at nk2
        exact tail n h s hs nt nk2 hq
      · rw [if_neg c12, if_pos (by omega), iv_sub]
        rw [if_pos (by omega)] at nk2
        refine Wp_lt ?_
        have f : HoF h (wI h 116 11 (iv (n 11 - H 12))) := HoF.rf.w
        exact Wp_mono (tail _ _ (f.shp s) (hs.ho f) nt.up nk2 hq) (fun _ h2 q => ⟨f.tr q.1, q.2⟩)
    · rw [if_neg c6, if_neg (by omega)]
      rw [if_neg (by omega)] at nk2
      exact tail n h s hs nt nk2 hq
  unfold Mo_passes
  refine Wp_ck (by rw [k92 s]) (Wp_bde (canGM s nt nk) ?_)
  simp only [bI_0]
  unfold passM
  by_cases c : 0 < n 3 ∧ n 4 = 0
  · rw [if_neg (by simp [c]), if_pos c]
    refine Wp_ck (by rw [k92 s]) ?_
    rw [il0]
    refine Wp_bd2 (handsM hN s ho hs nt nk hq (by omega)) ?_
    rintro v h2 ⟨-, f, nt2⟩
    exact Wp_mono (mid _ _ (f.shp s) (hs.ho f) nt2 (handM_ok ho nk (by omega)) hq) (fun _ h3 q => ⟨f.tr q.1, q.2⟩)
  · rw [if_pos (by simpa using c), if_neg c]
    exact mid n h s hs nt nk hq
theorem shutsM {N : Nat} {H C n : Nat → Int} {h : PH} (s : Shp h) (nt : NtM n h) : Wp (Mo_shuts N 92 h) (fun _ h2 => FrS (fun b => b = 116) h h2 ∧ NtM (shutM n) h2) := by
  have n0 := nt 0 (by omega)
  have n5 := nt 5 (by omega)
  unfold Mo_shuts
  simp only [lt0_s, hK_wI, hK_wZ, hK_wJ, hK_wR, hR_wI, hR_wZ, hR_wJ, hR_wR]
  simp (disch := decide) only [k92 s, p92_10 s, p92_11 s, p92_35 s, k94 s, k95 s, k116 s, ck_T, bn_s, inb_l, ix_l, eq_self]
  simp only [hI_wI, Nat.reduceEqDiff, and_true, true_and, and_false, false_and, if_true, if_false, eq_self, ite_true, ite_false, n0, n5, iv_add, il1]
  refine Wp_ret ⟨FrS.rf.i1.i1, ?_⟩
  exact nt.up.up
