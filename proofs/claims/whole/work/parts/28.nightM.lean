/-! THE PURE PROOFS, 6: the reference's house and night. -/
def HsM (H C : Nat → Int) (h : PH) : Prop := (∀ k : Nat, k < 18 → hI h 94 k = iv (H k)) ∧ (∀ k : Nat, k < 96 → hI h 95 k = iv (C k))
def NtM (n : Nat → Int) (h : PH) : Prop := ∀ k : Nat, k < 14 → hI h 116 k = iv (n k)
theorem HsM.fr {H C : Nat → Int} {h h2 : PH} {S : Nat → Prop} (x : HsM H C h) (f : FrS S h h2) (n0 : ¬ S 94) (n1 : ¬ S 95) : HsM H C h2 := ⟨fun k hk => (f.I n0 k).trans (x.1 k hk), fun k hk => (f.I n1 k).trans (x.2 k hk)⟩
theorem NtM.fr {n : Nat → Int} {h h2 : PH} {S : Nat → Prop} (x : NtM n h) (f : FrS S h h2) (n0 : ¬ S 116) : NtM n h2 := fun k hk => (f.I n0 k).trans (x k hk)
theorem inb_n {a n : Nat} (h2 : a < n) (h3 : a < 2147483648) : inb (@OfNat.ofNat Int32 a _) n = true := by
  rw [iv_lit a]
  exact inb_iv (Int.natCast_nonneg a) (Int.ofNat_lt.mpr h2) (by show ((a : Nat) : Int) < _; omega)
theorem ix_n {a : Nat} (h3 : a < 2147483648) : ix (@OfNat.ofNat Int32 a _) = a := by
  rw [iv_lit a]
  have := ix_iv (a := (a : Int)) (Int.natCast_nonneg a) (by omega)
  rw [Int.toNat_natCast] at this
  exact this
theorem chM_eq {N : Nat} {H C : Nat → Int} {h : PH} {wet q k : Int} (s : Shp h) (hs : HsM H C h) (hw : wet = 0 ∨ wet = 1) (hq : 0 ≤ q ∧ q < 24) (hk : 0 ≤ k ∧ k < 4) : Mo_chanceOf N 92 (iv q) (iv k) (iv wet) h = some (iv (cw C wet q k), h) := by
  unfold Mo_chanceOf cw ch
  simp only [iv_lit, iv_mul, iv_add]
  simp only [show (iv wet = iv 0) ↔ wet = 0 from iv_eq (by omega) (by omega) (by omega) (by omega), show (iv k = iv 0) ↔ k = 0 from iv_eq (by omega) (by omega) (by omega) (by omega), show (iv k = iv 3) ↔ k = 3 from iv_eq (by omega) (by omega) (by omega) (by omega)]
  rw [ck_p (by rw [k92 s]), ck_p (by rw [k92 s]), ck_p (by rw [k92 s]), p92_11 s, bn_s, bn_s, bn_s, k95 s, ck_p rfl, ck_p rfl, ck_p rfl]
  by_cases c : wet = 0
  · rw [if_pos c, if_pos c, ck_p (inb_iv (by omega) (by omega) (by omega)), ix_iv (by omega) (by omega), hs.2 _ (by omega)]
  · rw [if_neg c, if_neg c]
    by_cases c0 : k = 0
    · rw [if_pos c0, if_pos c0, ck_p (inb_iv (by omega) (by omega) (by omega)), ck_p (inb_iv (by omega) (by omega) (by omega)), ix_iv (by omega) (by omega), ix_iv (by omega) (by omega), hs.2 _ (by omega), hs.2 _ (by omega), iv_add, Int.add_zero]
    · rw [if_neg c0, if_neg c0]
      by_cases c3 : k = 3
      · rw [if_pos c3, if_pos c3]
      · rw [if_neg c3, if_neg c3, ck_p (inb_iv (by omega) (by omega) (by omega)), ix_iv (by omega) (by omega), hs.2 _ (by omega), Int.add_assoc]
theorem nobM_eq {N : Nat} {H C : Nat → Int} {h : PH} {q : Int} (s : Shp h) (ho : HOK H C) (hs : HsM H C h) (hq : 0 ≤ q ∧ q ≤ 24) : Mo_nothing N 92 (iv q) h = some (iv (nob H q), h) := by
  obtain ⟨-, -, -, -, -, -, -, -, -, -, ⟨g1, g2⟩, -, -, -, -, -, g16, -⟩ := ho
  unfold Mo_nothing Mo_nothing_b32 nob
  rw [ck_p (by rw [k92 s]), ck_p (by rw [k92 s]), p92_10 s, bn_s, bn_s, k94 s, ck_p rfl, ck_p rfl, ck_p (inb_n (by omega) (by omega)), ck_p (inb_n (by omega) (by omega)), ck_p (inb_n (by omega) (by omega)), ck_p (inb_n (by omega) (by omega)), ix_n (by omega), ix_n (by omega), ix_n (by omega), ix_n (by omega), hs.1 _ (by omega), hs.1 _ (by omega), hs.1 _ (by omega), hs.1 _ (by omega), il1]
  simp only [show (iv (H 16) = iv 1) ↔ H 16 = 1 from iv_eq (by omega) (by omega) (by omega) (by omega), show (iv q < iv (H 10)) ↔ q < H 10 from iv_lt (by omega) (by omega) (by omega) (by omega)]
  by_cases c : H 16 = 1
  · rw [if_pos c]
    by_cases c2 : q < H 10
    · rw [if_pos c2, if_neg (by omega)]
    · rw [if_neg c2, if_pos (by omega)]
  · rw [if_neg c, if_neg (by omega)]
theorem wsM_loop {N : Nat} {H C : Nat → Int} {h : PH} (s : Shp h) (ho : HOK H C) (hs : HsM H C h) : ∀ (m : Nat) (n k v : Int), n = k + m → 0 ≤ k → n ≤ 3 → ∀ fuel, m < fuel → Mo_worthOf_b4 N fuel 92 (iv n) (iv v) (iv k) h = some (iv (v + (wsm H n - wsm H k)), h) := by
  intro m
  induction m with
  | zero =>
    intro n k v e hk hn fuel hf
    obtain ⟨f, rfl⟩ : ∃ f, fuel = f + 1 := ⟨fuel - 1, by omega⟩
    rw [Mo_worthOf_b4, if_pos (by rw [iv_le (by omega) (by omega) (by omega) (by omega)]; omega), show n = k from by omega, Int.sub_self, Int.add_zero]
  | succ m ih =>
    intro n k v e hk hn fuel hf
    obtain ⟨f, rfl⟩ : ∃ f, fuel = f + 1 := ⟨fuel - 1, by omega⟩
    rw [Mo_worthOf_b4, if_neg (by rw [iv_le (by omega) (by omega) (by omega) (by omega)]; omega), ck_p (by rw [k92 s]), p92_10 s, bn_s, k94 s, ck_p rfl, il4, iv_add, ck_p (inb_iv (by omega) (by omega) (by omega)), ix_iv (by omega) (by omega), hs.1 _ (by omega), iv_add, il1, iv_add, ih n (k + 1) _ (by omega) (by omega) (by omega) f (by omega)]
    have c : k = 0 ∨ k = 1 ∨ k = 2 := by omega
    have hx : H (4 + k).toNat = wsm H (k + 1) - wsm H k := by
      rcases c with rfl | rfl | rfl <;> simp [wsm] <;> omega
    rw [hx]
    congr 3
    omega
theorem wsM_eq {N : Nat} {H C : Nat → Int} {h : PH} {n : Int} (hN : 100 ≤ N) (s : Shp h) (ho : HOK H C) (hs : HsM H C h) (hn : 0 ≤ n ∧ n ≤ 3) : Mo_worthOf N 92 (iv n) h = some (iv (wsm H n), h) := by
  unfold Mo_worthOf
  rw [il0, wsM_loop s ho hs n.toNat n 0 0 (by omega) (by omega) (by omega) N (by omega), show wsm H 0 = 0 from rfl]
  congr 3
  omega
theorem within_eq {N : Nat} {h : PH} {v a b : Int} (hv : -2147483648 ≤ v ∧ v < 2147483648) (ha : -2147483648 ≤ a ∧ a < 2147483648) (hb : -2147483648 ≤ b ∧ b < 2147483648) : Mo_within N (iv v) (iv a) (iv b) h = some (decide (a ≤ v ∧ v ≤ b), h) := by
  unfold Mo_within
  simp only [show (iv v < iv a) ↔ v < a from iv_lt (by omega) (by omega) (by omega) (by omega), show (iv b < iv v) ↔ b < v from iv_lt (by omega) (by omega) (by omega) (by omega)]
  by_cases c : v < a
  · rw [if_pos c, decide_eq_false (by omega)]
  · rw [if_neg c]
    by_cases c2 : b < v
    · rw [if_pos c2, decide_eq_false (by omega)]
    · rw [if_neg c2, decide_eq_true (by omega)]
theorem isWM_eq {N : Nat} {H C : Nat → Int} {h : PH} {here how : Int} (s : Shp h) (ho : HOK H C) (hs : HsM H C h) (hh : 0 ≤ here ∧ here ≤ 7) (hw : 0 ≤ how ∧ how ≤ 4) : Mo_isWordBy N 92 (iv how) (iv here) h = some (decide (isW H how here = 1), h) := by
  obtain ⟨-, -, -, -, -, -, -, -, -, -, -, ⟨w1, w2⟩, -⟩ := ho
  unfold Mo_isWordBy isW
  rw [ck_p (by rw [k92 s]), p92_10 s, bn_s, k94 s, ck_p rfl, ck_p (inb_n (by omega) (by omega)), ck_p (inb_n (by omega) (by omega)), ix_n (by omega), hs.1 _ (by omega), il0, il3, within_eq (by omega) (by omega) (by omega), bd_s]
  simp only [bI_0, show (iv (H 11) ≤ iv 0) ↔ H 11 ≤ 0 from iv_le (by omega) (by omega) (by omega) (by omega), show (iv here ≤ iv 0) ↔ here ≤ 0 from iv_le (by omega) (by omega) (by omega) (by omega)]
  by_cases c1 : H 11 ≤ 0
  · rw [if_pos c1, if_neg (by omega)]; rfl
  · rw [if_neg c1]
    by_cases c2 : here ≤ 0
    · rw [if_pos c2, if_neg (by omega)]; rfl
    · rw [if_neg c2]
      by_cases c3 : H 11 ≤ how ∧ how ≤ 3
      · rw [if_neg (by simp [c3]), if_pos (by omega)]; rfl
      · rw [if_pos (by simpa using c3), if_neg (by omega)]; rfl
/-- what gives leaves as it was -/
def GvF (h h2 : PH) : Prop := FrS (fun b => b = 92) h h2 ∧ hJ h2 = hJ h ∧ hZ h2 = hZ h ∧ ∀ j, j ≠ 41 → j ≠ 42 → j ≠ 43 → hI h2 92 j = hI h 92 j
theorem GvF.rf {h : PH} : GvF h h := ⟨FrS.rf, rfl, rfl, fun _ _ _ _ => rfl⟩
theorem GvF.tr {h h1 h2 : PH} (a : GvF h h1) (b : GvF h1 h2) : GvF h h2 := ⟨a.1.tr b.1, b.2.1.trans a.2.1, b.2.2.1.trans a.2.2.1, fun j x y z => (b.2.2.2 j x y z).trans (a.2.2.2 j x y z)⟩
theorem GvF.w {h : PH} {i : Nat} {v : Int32} (k : i = 41 ∨ i = 42 ∨ i = 43) : GvF h (wI h 92 i v) := ⟨FrS.rf.aI rfl, rfl, rfl, fun j x y z => by rw [hI_wI, if_neg (by omega)]⟩
theorem givesM_loop {N : Nat} {H C : Nat → Int} (hN : 100 ≤ N) (ho : HOK H C) {q how t a here : Int} (hq : 0 ≤ q ∧ q < 24) (hw : 0 ≤ how ∧ how ≤ 4) (ht : 0 ≤ t ∧ t ≤ 1000) (ha : 0 ≤ a ∧ a ≤ 1000) (hh : 0 ≤ here ∧ here ≤ 7) : ∀ (m k : Nat) (h : PH), here = (k : Int) + m → Shp h → HsM H C h → hI h 92 41 = iv (gN H q how t a k).2.1 → hI h 92 42 = iv (gN H q how t a k).2.2.1 → hI h 92 43 = iv (gN H q how t a k).2.2.2 → ∀ fuel, m < fuel → Wp (Mo_gives_b23 N fuel 92 (iv q) (iv here) (iv how) (iv (gN H q how t a k).1) (iv k) h) (fun v h2 => v = iv (gN H q how t a (k + m)).1 ∧ GvF h h2 ∧ hI h2 92 41 = iv (gN H q how t a (k + m)).2.1 ∧ hI h2 92 42 = iv (gN H q how t a (k + m)).2.2.1 ∧ hI h2 92 43 = iv (gN H q how t a (k + m)).2.2.2) := by
  intro m
  induction m with
  | zero =>
    intro k h e s hs e1 e2 e3 fuel hf
    obtain ⟨f, rfl⟩ : ∃ f, fuel = f + 1 := ⟨fuel - 1, by omega⟩
    rw [Mo_gives_b23]
    exact Wp_ifp (by rw [iv_le (by omega) (by omega) (by omega) (by omega)]; omega) (Wp_ret ⟨rfl, GvF.rf, e1, e2, e3⟩)
  | succ m ih =>
    intro k h e s hs e1 e2 e3 fuel hf
    obtain ⟨f, rfl⟩ : ∃ f, fuel = f + 1 := ⟨fuel - 1, by omega⟩
    have gb := gN_b ho (q := q) hw ht.1 ha.1 k
    have step : gN H q how t a (k + 1) = gst H q how (gN H q how t a k) := rfl
    have go : ∀ h2 : PH, GvF h h2 → hI h2 92 41 = iv (gN H q how t a (k + 1)).2.1 → hI h2 92 42 = iv (gN H q how t a (k + 1)).2.2.1 → hI h2 92 43 = iv (gN H q how t a (k + 1)).2.2.2 → Wp (Mo_gives_b140 N (Mo_gives_b23 N f) 92 (iv q) (iv here) (iv how) (iv (gN H q how t a (k + 1)).1) (iv k) h2) (fun v h3 => v = iv (gN H q how t a (k + (m + 1))).1 ∧ GvF h h3 ∧ hI h3 92 41 = iv (gN H q how t a (k + (m + 1))).2.1 ∧ hI h3 92 42 = iv (gN H q how t a (k + (m + 1))).2.2.1 ∧ hI h3 92 43 = iv (gN H q how t a (k + (m + 1))).2.2.2) := by
      intro h2 g x1 x2 x3
      unfold Mo_gives_b140
      rw [il1, iv_add]
      have r := ih (k + 1) h2 (by omega) (g.1.shp s) (hs.fr g.1 (by omega) (by omega)) x1 x2 x3 f (by omega)
      rw [show ((k + 1 : Nat) : Int) = (k : Int) + 1 from by omega, show k + 1 + m = k + (m + 1) from by omega] at r
      exact Wp_mono r (fun v h3 p => ⟨p.1, g.tr p.2.1, p.2.2⟩)
    have rest : ¬ (how = 4 ∧ 0 < (gN H q how t a k).2.2.1) → Wp (Mo_gives_b65 N (Mo_gives_b23 N f) 92 (iv q) (iv here) (iv how) (iv (gN H q how t a k).1) (iv k) h) (fun v h3 => v = iv (gN H q how t a (k + (m + 1))).1 ∧ GvF h h3 ∧ hI h3 92 41 = iv (gN H q how t a (k + (m + 1))).2.1 ∧ hI h3 92 42 = iv (gN H q how t a (k + (m + 1))).2.2.1 ∧ hI h3 92 43 = iv (gN H q how t a (k + (m + 1))).2.2.2) := by
      intro c
      have key : ∀ n : Int, n = (if how = 4 then 0 else min how (gN H q how t a k).2.1) → Wp (Mo_gives_b82 N (Mo_gives_b23 N f) (iv n) 92 (iv q) (iv here) (iv how) (iv (gN H q how t a k).1) (iv k) h) (fun v h3 => v = iv (gN H q how t a (k + (m + 1))).1 ∧ GvF h h3 ∧ hI h3 92 41 = iv (gN H q how t a (k + (m + 1))).2.1 ∧ hI h3 92 42 = iv (gN H q how t a (k + (m + 1))).2.2.1 ∧ hI h3 92 43 = iv (gN H q how t a (k + (m + 1))).2.2.2) := by
        intro n hn
        have hn2 : 0 ≤ n ∧ n ≤ 3 := by rw [hn]; split <;> omega
        have g1 : gN H q how t a (k + 1) = ((gN H q how t a k).1 + (if n = 0 then 0 - nob H q else wsm H n), (gN H q how t a k).2.1 - n, (gN H q how t a k).2.2.1, (gN H q how t a k).2.2.2 + (if n = 0 then 1 else 0)) := by
          rw [step, gst, if_neg c, ← hn]
        rw [g1] at go
        unfold Mo_gives_b82 Mo_gives_b118 Mo_gives_b136
        refine Wp_ck (by rw [k92 s]) (Wp_lt ?_)
        rw [e1, iv_sub]
        have f1 : GvF h (wI h 92 41 (iv ((gN H q how t a k).2.1 - n))) := GvF.w (Or.inl rfl)
        have s1 := f1.1.shp s
        have hs1 := hs.fr f1.1 (by omega) (by omega)
        have y1 : hI (wI h 92 41 (iv ((gN H q how t a k).2.1 - n))) 92 41 = iv ((gN H q how t a k).2.1 - n) := by simp only [hI_wI, and_true, true_and, and_false, false_and, if_true, if_false, eq_self, ite_true, ite_false]; simp
        have y2 : hI (wI h 92 41 (iv ((gN H q how t a k).2.1 - n))) 92 42 = iv (gN H q how t a k).2.2.1 := by simp only [hI_wI, Nat.reduceEqDiff, and_true, true_and, and_false, false_and, if_true, if_false, eq_self, ite_true, ite_false]; exact e2
        have y3 : hI (wI h 92 41 (iv ((gN H q how t a k).2.1 - n))) 92 43 = iv (gN H q how t a k).2.2.2 := by simp only [hI_wI, Nat.reduceEqDiff, and_true, true_and, and_false, false_and, if_true, if_false, eq_self, ite_true, ite_false]; exact e3
        generalize wI h 92 41 (iv ((gN H q how t a k).2.1 - n)) = h1 at f1 s1 hs1 y1 y2 y3 ⊢
        rw [il0, il1]
        simp only [show (iv n = iv 0) ↔ n = 0 from iv_eq (by omega) (by omega) (by omega) (by omega)]
        by_cases c0 : n = 0
        · refine Wp_ifp c0 (Wp_bde (nobM_eq s1 ho hs1 (by omega)) (Wp_ck (by rw [k92 s1]) (Wp_ifp c0 (Wp_ck (by rw [k92 s1]) (Wp_lt ?_)))))
          rw [iv_sub, iv_add, y3, iv_add]
          rw [if_pos c0, if_pos c0] at go
          refine go _ (f1.tr (GvF.w (Or.inr (Or.inr rfl)))) ?_ ?_ ?_
          · simp only [hI_wI, Nat.reduceEqDiff, and_true, true_and, and_false, false_and, if_true, if_false, eq_self, ite_true, ite_false]; exact y1
          · simp only [hI_wI, Nat.reduceEqDiff, and_true, true_and, and_false, false_and, if_true, if_false, eq_self, ite_true, ite_false]; exact y2
          · simp only [hI_wI, and_true, true_and, and_false, false_and, if_true, if_false, eq_self, ite_true, ite_false]; simp
        · refine Wp_ifn c0 (Wp_bde (wsM_eq hN s1 ho hs1 (by omega)) (Wp_ck (by rw [k92 s1]) (Wp_ifn c0 (Wp_ck (by rw [k92 s1]) (Wp_lt ?_)))))
          rw [iv_add, y3, iv_add]
          rw [if_neg c0, if_neg c0] at go
          refine go _ (f1.tr (GvF.w (Or.inr (Or.inr rfl)))) ?_ ?_ ?_
          · simp only [hI_wI, Nat.reduceEqDiff, and_true, true_and, and_false, false_and, if_true, if_false, eq_self, ite_true, ite_false]; exact y1
          · simp only [hI_wI, Nat.reduceEqDiff, and_true, true_and, and_false, false_and, if_true, if_false, eq_self, ite_true, ite_false]; exact y2
          · simp only [hI_wI, and_true, true_and, and_false, false_and, if_true, if_false, eq_self, ite_true, ite_false]; simp
      unfold Mo_gives_b65
      rw [il4]
      simp only [show (iv how = iv 4) ↔ how = 4 from iv_eq (by omega) (by omega) (by omega) (by omega)]
      rw [e1, iv_mn (by omega) (by omega) (by omega) (by omega), il0]
      refine Wp_if (fun c4 => ?_) (fun c4 => Wp_ck (by rw [k92 s]) ?_)
      · exact key 0 (by rw [if_pos c4])
      · exact key _ (by rw [if_neg c4])
    rw [Mo_gives_b23]
    refine Wp_ifn (by rw [iv_le (by omega) (by omega) (by omega) (by omega)]; omega) ?_
    rw [il4]
    simp only [show (iv how = iv 4) ↔ how = 4 from iv_eq (by omega) (by omega) (by omega) (by omega)]
    rw [e2, il0]
    simp only [show (iv (gN H q how t a k).2.2.1 ≤ iv 0) ↔ (gN H q how t a k).2.2.1 ≤ 0 from iv_le (by omega) (by omega) (by omega) (by omega)]
    refine Wp_if (fun c4 => Wp_ck (by rw [k92 s]) (Wp_if (fun ca => rest (by omega)) (fun ca => ?_))) (fun c4 => rest (by omega))
    have g1 : gN H q how t a (k + 1) = ((gN H q how t a k).1 + H 3, (gN H q how t a k).2.1, (gN H q how t a k).2.2.1 - 1, (gN H q how t a k).2.2.2) := by
      rw [step, gst, if_pos (by omega)]
    rw [g1] at go
    refine Wp_lt (Wp_bn (by rw [hR_wI, p92_10 s]) (Wp_ck (by rw [hK_wI, k94 s]) (Wp_ck (by rw [hK_wI, k94 s]; exact inb_n (by omega) (by omega)) ?_)))
    rw [ix_n (by omega), il1, iv_sub, hI_wI, if_neg (by omega), hs.1 3 (by omega), iv_add]
    refine go _ (GvF.w (Or.inr (Or.inl rfl))) ?_ ?_ ?_
    · simp only [hI_wI, Nat.reduceEqDiff, and_true, true_and, and_false, false_and, if_true, if_false, eq_self, ite_true, ite_false]; exact e1
    · simp only [hI_wI, and_true, true_and, and_false, false_and, if_true, if_false, eq_self, ite_true, ite_false]; simp
    · simp only [hI_wI, Nat.reduceEqDiff, and_true, true_and, and_false, false_and, if_true, if_false, eq_self, ite_true, ite_false]; exact e3
theorem givesM {N : Nat} {H C : Nat → Int} {h : PH} (hN : 100 ≤ N) (ho : HOK H C) {q how t a here : Int} (hq : 0 ≤ q ∧ q < 24) (hw : 0 ≤ how ∧ how ≤ 4) (ht : 0 ≤ t ∧ t ≤ 1000) (ha : 0 ≤ a ∧ a ≤ 1000) (hh : 0 ≤ here ∧ here ≤ 7) (s : Shp h) (hs : HsM H C h) : Wp (Mo_gives N 92 (iv q) (iv here) (iv how) (iv t) (iv a) h) (fun v h2 => v = iv (gv H q here how t a) ∧ GvF h h2 ∧ hI h2 92 41 = iv (gt H q here how t a) ∧ hI h2 92 42 = iv (ga H q here how t a) ∧ hI h2 92 43 = iv (glk H q here how t a)) := by
  unfold Mo_gives gv gt ga glk
  refine Wp_ck (by rw [k92 s]) (Wp_lt (Wp_lt (Wp_lt ?_)))
  have f : GvF h (wI (wI (wI h 92 41 (iv t)) 92 42 (iv a)) 92 43 0) := ((GvF.w (Or.inl rfl)).tr (GvF.w (Or.inr (Or.inl rfl)))).tr (GvF.w (Or.inr (Or.inr rfl)))
  have r := givesM_loop hN ho hq hw ht ha hh here.toNat 0 _ (by omega) (f.1.shp s) (hs.fr f.1 (by omega) (by omega)) (by simp only [hI_wI, Nat.reduceEqDiff, and_true, true_and, and_false, false_and, if_true, if_false, eq_self, ite_true, ite_false]; rfl) (by simp only [hI_wI, Nat.reduceEqDiff, and_true, true_and, and_false, false_and, if_true, if_false, eq_self, ite_true, ite_false]; rfl) (by simp only [hI_wI, and_true, true_and, and_false, false_and, if_true, if_false, eq_self, ite_true, ite_false]; rw [il0]; rfl) N (by omega)
  rw [Nat.zero_add] at r
  rw [il0]
  rw [il0] at r f
  exact Wp_mono r (fun v h3 p => ⟨p.1, f.tr p.2.1, p.2.2⟩)
