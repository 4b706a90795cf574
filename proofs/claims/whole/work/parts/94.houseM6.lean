/-! THE PURE PROOFS, 72: the reference reads a house, and moves in. -/
theorem readsAllM {N : Nat} {T : Nat → Int} {L : Nat} {h : PH} (hN : 1100 ≤ N) (x : Tx0 T L h) : Wp (Mo_readsAll N 92 h) (fun v h2 => FrS (fun b => b = 92 ∨ (94 ≤ b ∧ b ≤ 102) ∨ (113 ≤ b ∧ b ≤ 115)) h h2 ∧ (∀ a, 113 ≤ a → a ≤ 115 → hI h2 a = hI h a) ∧ hI h2 92 1 = iv 0 ∧ hI h2 92 0 = hI h 92 0 ∧ hI h2 92 40 = hI h 92 40 ∧ (∀ j, j < 18 → hI h2 94 j = hI h 94 j) ∧ (∀ j, j < 96 → hI h2 95 j = hI h 95 j) ∧ (∀ j, j < 4 → hI h2 98 j = hI h 98 j ∧ hI h2 99 j = hI h 99 j) ∧ (∀ j, j < 1000 → hI h2 100 j = hI h 100 j) ∧ match hoR T L with
    | .inl f => v = false ∧ hI h2 92 9 = iv f ∧ 0 < f ∧ f < 1048576
    | .inr S => v = true ∧ StM T L S h2 ∧ SOK T L S ∧ (catI (sE S) (sH S 15).toNat).length ≤ 1000) := by
  obtain ⟨s, hL, okT, e1, eT⟩ := x
  have kl := K27_lits
  unfold Mo_readsAll
  refine Wp_ck (by rw [k92 s]) (Wp_bd2 (show Wp (Mo_plain N 92 (iv ((1 : Nat) : Int)) h) _ from plainM (r := 1) (by omega) s (by omega)) ?_)
  rintro - h1 ⟨f1, a1, a2, a3⟩
  have s1 := f1.1.shp s
  refine Wp_ck (by rw [k92 s1]) (Wp_lt (Wp_lt ?_))
  rw [il0, il1000]
  have g2 : FrI (fun b => b = 92) h1 (wI (wI h1 92 18 (iv 0)) 92 17 (iv 1000)) := (FrI.rf.w1).w1
  have o17 : hI (wI (wI h1 92 18 (iv 0)) 92 17 (iv 1000)) 92 17 = iv 1000 := by rw [hI_wI, if_pos ⟨rfl, rfl⟩]
  have o18 : hI (wI (wI h1 92 18 (iv 0)) 92 17 (iv 1000)) 92 18 = iv 0 := by rw [hI_wI, if_neg (by omega), hI_wI, if_pos ⟨rfl, rfl⟩]
  have oo : ∀ j, j ≠ 17 → j ≠ 18 → hI (wI (wI h1 92 18 (iv 0)) 92 17 (iv 1000)) 92 j = hI h 92 j := fun j z y => by rw [hI_wI, if_neg (by omega), hI_wI, if_neg (by omega), f1.1.I (by omega)]
  generalize (wI (wI h1 92 18 (iv 0)) 92 17 (iv 1000)) = h2 at g2 o17 o18 oo ⊢
  have s2 := g2.shp s1
  have x2 : Tx0 T L h2 := ⟨s2, hL, okT, (oo 1 (by omega) (by omega)).trans e1, fun k hk => by rw [g2.I (by omega), f1.1.I (by omega)]; exact eT k hk⟩
  refine Wp_bd2 (startsM hN x2) ?_
  rintro - h3 ⟨f3, x3, l3, b1, b2, b3⟩
  have s3 := x3.1
  have F3 : FrS (fun b => b = 92 ∨ (94 ≤ b ∧ b ≤ 102) ∨ (113 ≤ b ∧ b ≤ 115)) h h3 := ((f1.1.up (fun b e => by omega)).tr (g2.s.up (fun b e => Or.inl e))).tr (f3.1.up (fun b e => by omega))
  have q92 : ∀ j, Q0 j → hI h3 92 j = hI h2 92 j := f3.2.2.1
  have low : (∀ a, 113 ≤ a → a ≤ 115 → hI h3 a = hI h a) ∧ hI h3 92 0 = hI h 92 0 ∧ hI h3 92 40 = hI h 92 40 ∧ (∀ j, j < 18 → hI h3 94 j = hI h 94 j) ∧ (∀ j, j < 96 → hI h3 95 j = hI h 95 j) ∧ (∀ j, j < 4 → hI h3 98 j = hI h 98 j ∧ hI h3 99 j = hI h 99 j) ∧ (∀ j, j < 1000 → hI h3 100 j = hI h 100 j) := by
    refine ⟨fun a z y => ?_, ?_, ?_, fun j hj => ?_, fun j hj => ?_, fun j hj => ⟨?_, ?_⟩, fun j hj => ?_⟩
    · rw [b2 a (by omega), g2.2.2.2.2.2 a (by omega), (f1.1.2.2.2 a (by omega)).1]
    · rw [b3, oo 0 (by omega) (by omega)]
    · rw [q92 40 (by unfold Q0; omega), oo 40 (by omega) (by omega)]
    · rw [b2 94 (by omega), g2.I (by omega), f1.2.1 j (by omega)]
    · rw [b2 95 (by omega), g2.I (by omega), f1.2.2 j (by omega)]
    · rw [b2 98 (by omega), g2.I (by omega), f1.1.I (by omega)]
    · rw [b2 99 (by omega), g2.I (by omega), f1.1.I (by omega)]
    · rw [b2 100 (by omega), g2.I (by omega), f1.1.I (by omega)]
  have t3 : StM T L S0 h3 := by
    refine ⟨fun k hk => ?_, fun k hk => ?_, fun q hq => ?_, ?_, fun i hi => ?_, ⟨?_, fun i hi => ?_⟩, fun i hi => ?_⟩
    · rw [b2 94 (by omega), g2.I (by omega)]; exact a1 k hk
    · rw [b2 95 (by omega), g2.I (by omega)]; exact a3 k hk
    · rw [f3.2.1, g2.2.2.2.1]; exact a2 q hq
    · rw [q92 18 (by unfold Q0; omega), o18]; decide +kernel
    · exact absurd hi (Nat.not_lt_zero i)
    · rw [q92 17 (by unfold Q0; omega), o17]; rfl
    · exact absurd hi (Nat.not_lt_zero i)
    · exact absurd hi (Nat.not_lt_zero i)
  have cmp : ∀ {h4}, FrK h3 h4 → FrS (fun b => b = 92 ∨ (94 ≤ b ∧ b ≤ 102) ∨ (113 ≤ b ∧ b ≤ 115)) h h4 ∧ (∀ a, 113 ≤ a → a ≤ 115 → hI h4 a = hI h a) ∧ hI h4 92 1 = iv 0 ∧ hI h4 92 0 = hI h 92 0 ∧ hI h4 92 40 = hI h 92 40 ∧ (∀ j, j < 18 → hI h4 94 j = hI h 94 j) ∧ (∀ j, j < 96 → hI h4 95 j = hI h 95 j) ∧ (∀ j, j < 4 → hI h4 98 j = hI h 98 j ∧ hI h4 99 j = hI h 99 j) ∧ (∀ j, j < 1000 → hI h4 100 j = hI h 100 j) := by
    intro h4 f4
    obtain ⟨w1, w2, w3, w4, w5, w6, w7⟩ := low
    exact ⟨F3.tr (f4.1.up (fun b e => by omega)), fun a z y => ((f4.1.2.2.2 a (by omega)).1).trans (w1 a z y), (f4.2.1 1 (by unfold QK; omega)).trans b1, (f4.2.1 0 (by unfold QK; omega)).trans w2, (f4.2.1 40 (by unfold QK; omega)).trans w3, fun j hj => (f4.2.2.1 j hj).trans (w4 j hj), fun j hj => (f4.2.2.2.1 j hj).trans (w5 j hj), fun j hj => ⟨(f4.2.2.2.2.1 j hj).1.trans (w6 j hj).1, (f4.2.2.2.2.1 j hj).2.trans (w6 j hj).2⟩, fun j hj => (f4.2.2.2.2.2 j hj).trans (w7 j hj)⟩
  refine Wp_ck (by rw [k92 s3]) (bothK (i := 0) (lo := 1) (hi := 24) hN x3 l3 (Nat.zero_le _) (by omega) (by rw [kl.1]; exact jv_lit _) il1 il24 (by omega) (by omega) (fun f h4 f4 en g3 g4 => ?_) (fun p4 h4 f4 x4 en l4 hp4 n4 b4 => ?_))
  · have en' : numP T L 1 24 (hoR0 T L) = .inl f := en
    obtain ⟨c1, c2, c3, c4, c5, c6, c7, c8, c9⟩ := cmp f4.k
    refine ⟨c1, c2, c3, c4, c5, c6, c7, c8, c9, ?_⟩
    unfold hoR
    rw [en']
    exact ⟨rfl, g3, g4⟩
  · have en' : numP T L 1 24 (hoR0 T L) = .inr p4 := en
    have n4' : hI h4 92 31 = iv (numZ T L 1 24 (hoR0 T L)) := n4
    have b4' : 1 ≤ numZ T L 1 24 (hoR0 T L) ∧ numZ T L 1 24 (hoR0 T L) ≤ 24 := b4
    refine Wp_ck (by rw [k92 x4.1]) (fldK (i := 18 + 0) x4.1 (iv_lit 18) (by omega) n4' ?_)
    have f5 : FrK h4 (wI h4 94 (18 + 0) (iv (numZ T L 1 24 (hoR0 T L)))) := FrK.rf.w (by omega)
    have t5 : StM T L (S1 (numZ T L 1 24 (hoR0 T L))) (wI h4 94 (18 + 0) (iv (numZ T L 1 24 (hoR0 T L)))) := (t3.y f4).w (k := 0) (v := numZ T L 1 24 (hoR0 T L)) (by omega) (by omega)
    have l5 : LexM T L p4 (wI h4 94 (18 + 0) (iv (numZ T L 1 24 (hoR0 T L)))) := l4.w (by omega)
    have x5 := f5.tx x4
    generalize (wI h4 94 (18 + 0) (iv (numZ T L 1 24 (hoR0 T L)))) = h5 at f5 t5 l5 x5 ⊢
    refine Wp_bd2 (closesM hN x5 l5 hp4) ?_
    rintro v h6 ⟨f6, g6⟩
    have F6 := (f4.k.tr f5).tr f6.k
    cases ec : sgnR T L 59 (.inr p4) with
    | inl f =>
      rw [ec] at g6
      obtain ⟨rfl, g7, g8⟩ := g6
      obtain ⟨c1, c2, c3, c4, c5, c6, c7, c8, c9⟩ := cmp F6
      refine Wp_ifp rfl (Wp_ret ⟨c1, c2, c3, c4, c5, c6, c7, c8, c9, ?_⟩)
      unfold hoR
      rw [en', ec]
      exact ⟨rfl, g7, g8⟩
    | inr p6 =>
      rw [ec] at g6
      obtain ⟨rfl, l6, hp6⟩ := g6
      refine Wp_ifn (by decide) (Wp_mono (readsLoopM hN 1001 0 p6 _ h6 (by omega) (by omega) F6 (f6.tx x5) l6 hp6 (t5.y f6) (S1_ok b4') (Nat.zero_le _) N (by omega)) ?_)
      rintro v h7 ⟨f7, g7⟩
      obtain ⟨c1, c2, c3, c4, c5, c6, c7, c8, c9⟩ := cmp f7
      refine ⟨c1, c2, c3, c4, c5, c6, c7, c8, c9, ?_⟩
      unfold hoR
      rw [en', ec]
      exact g7
/-! ### laid -/
theorem lay2M {N : Nat} {h0 : PH} {Q : Unit → PH → Prop} (s0 : Shp h0) (next : ∀ h2, FrI (fun b => b = 94) h0 h2 → (∀ j, j < 18 → hI h2 94 j = hI h0 94 (18 + j)) → Wp (Mo_lays_b31 N N 92 0 h2) Q) : ∀ (m k : Nat) (h : PH), k + m = 18 → FrI (fun b => b = 94) h0 h → (∀ j, hI h 94 j = if j < k then hI h0 94 (18 + j) else hI h0 94 j) → ∀ fuel, m < fuel → Wp (Mo_lays_b2 N fuel 92 (iv k) h) Q
  | m, k, h, hk, f, e, fuel, hf => by
    obtain ⟨fu, rfl⟩ : ∃ g, fuel = g + 1 := ⟨fuel - 1, by omega⟩
    have s := f.shp s0
    rw [Mo_lays_b2, show (18 : Int32) = iv 18 from iv_lit _]
    refine Wp_if (fun c => ?_) (fun c => ?_)
    · rw [iv_le (by omega) (by omega) (by omega) (by omega)] at c
      exact next h f (fun j hj => by rw [e j, if_pos (by omega)])
    · rw [iv_le (by omega) (by omega) (by omega) (by omega)] at c
      obtain ⟨m2, rfl⟩ : ∃ g, m = g + 1 := ⟨m - 1, by omega⟩
      rw [iv_add, il1, iv_add]
      refine Wp_ck (by rw [k92 s]) (Wp_bn (p92_10 s) (Wp_ck (by rw [k94 s]) (Wp_ck (by rw [k94 s]; exact inb_iv (by omega) (by omega) (by omega)) (Wp_ck (by rw [k94 s]; exact inb_iv (by omega) (by omega) (by omega)) (Wp_lt ?_)))))
      rw [ix_nat (by omega), ix_iv (by omega) (by omega), show (18 + (k : Int)).toNat = 18 + k from by omega]
      refine lay2M s0 next m2 (k + 1) _ (by omega) (f.w rfl) (fun j => ?_) fu (by omega)
      rw [hI_wI, show hI h 94 (18 + k) = hI h0 94 (18 + k) from by rw [e (18 + k), if_neg (by omega)]]
      by_cases z : j = k
      · rw [if_pos ⟨rfl, z⟩, if_pos (by omega), z]
      · rw [if_neg (fun y => z y.2), e j]
        by_cases y : j < k
        · rw [if_pos y, if_pos (by omega)]
        · rw [if_neg y, if_neg (by omega)]
theorem lay31M {N : Nat} {h0 : PH} {Q : Unit → PH → Prop} (s0 : Shp h0) (next : ∀ h2, FrI (fun b => b = 95) h0 h2 → (∀ j, j < 96 → hI h2 95 j = hI h0 95 (96 + j)) → Wp (Mo_lays_b60 N N 92 0 h2) Q) : ∀ (m k : Nat) (h : PH), k + m = 96 → FrI (fun b => b = 95) h0 h → (∀ j, hI h 95 j = if j < k then hI h0 95 (96 + j) else hI h0 95 j) → ∀ fuel, m < fuel → Wp (Mo_lays_b31 N fuel 92 (iv k) h) Q
  | m, k, h, hk, f, e, fuel, hf => by
    obtain ⟨fu, rfl⟩ : ∃ g, fuel = g + 1 := ⟨fuel - 1, by omega⟩
    have s := f.shp s0
    rw [Mo_lays_b31, show (96 : Int32) = iv 96 from iv_lit _]
    refine Wp_if (fun c => ?_) (fun c => ?_)
    · rw [iv_le (by omega) (by omega) (by omega) (by omega)] at c
      exact next h f (fun j hj => by rw [e j, if_pos (by omega)])
    · rw [iv_le (by omega) (by omega) (by omega) (by omega)] at c
      obtain ⟨m2, rfl⟩ : ∃ g, m = g + 1 := ⟨m - 1, by omega⟩
      rw [iv_add, il1, iv_add]
      refine Wp_ck (by rw [k92 s]) (Wp_bn (p92_11 s) (Wp_ck (by rw [k95 s]) (Wp_ck (by rw [k95 s]; exact inb_iv (by omega) (by omega) (by omega)) (Wp_ck (by rw [k95 s]; exact inb_iv (by omega) (by omega) (by omega)) (Wp_lt ?_)))))
      rw [ix_nat (by omega), ix_iv (by omega) (by omega), show (96 + (k : Int)).toNat = 96 + k from by omega]
      refine lay31M s0 next m2 (k + 1) _ (by omega) (f.w rfl) (fun j => ?_) fu (by omega)
      rw [hI_wI, show hI h 95 (96 + k) = hI h0 95 (96 + k) from by rw [e (96 + k), if_neg (by omega)]]
      by_cases z : j = k
      · rw [if_pos ⟨rfl, z⟩, if_pos (by omega), z]
      · rw [if_neg (fun y => z y.2), e j]
        by_cases y : j < k
        · rw [if_pos y, if_pos (by omega)]
        · rw [if_neg y, if_neg (by omega)]
theorem lay60M {N : Nat} {h0 : PH} {Q : Unit → PH → Prop} (s0 : Shp h0) (next : ∀ h2, FrI (fun b => b = 100) h0 h2 → (∀ j, j < 1000 → hI h2 100 j = hI h0 100 (1000 + j)) → Wp (Mo_lays_b91 N N 92 0 h2) Q) : ∀ (m k : Nat) (h : PH), k + m = 1000 → FrI (fun b => b = 100) h0 h → (∀ j, hI h 100 j = if j < k then hI h0 100 (1000 + j) else hI h0 100 j) → ∀ fuel, m < fuel → Wp (Mo_lays_b60 N fuel 92 (iv k) h) Q
  | 0, k, h, hk, f, e, fuel, hf => by
    obtain ⟨fu, rfl⟩ : ∃ g, fuel = g + 1 := ⟨fuel - 1, by omega⟩
    rw [Mo_lays_b60, il1000]
    exact Wp_ifp (by rw [iv_le (by omega) (by omega) (by omega) (by omega)]; omega) (next h f (fun j hj => by rw [e j, if_pos (by omega)]))
  | m + 1, k, h, hk, f, e, fuel, hf => by
    obtain ⟨fu, rfl⟩ : ∃ g, fuel = g + 1 := ⟨fuel - 1, by omega⟩
    have s := f.shp s0
    rw [Mo_lays_b60, il1000]
    refine Wp_ifn (by rw [iv_le (by omega) (by omega) (by omega) (by omega)]; omega) ?_
    rw [iv_add, il1, iv_add]
    refine Wp_ck (by rw [k92 s]) (Wp_bn (p92_16 s) (Wp_ck (by rw [k100 s]) (Wp_ck (by rw [k100 s]; exact inb_iv (by omega) (by omega) (by omega)) (Wp_ck (by rw [k100 s]; exact inb_iv (by omega) (by omega) (by omega)) (Wp_lt ?_)))))
    rw [ix_nat (by omega), ix_iv (by omega) (by omega), show (1000 + (k : Int)).toNat = 1000 + k from by omega]
    refine lay60M s0 next m (k + 1) _ (by omega) (f.w rfl) (fun j => ?_) fu (by omega)
    rw [hI_wI, show hI h 100 (1000 + k) = hI h0 100 (1000 + k) from by rw [e (1000 + k), if_neg (by omega)]]
    by_cases z : j = k
    · rw [if_pos ⟨rfl, z⟩, if_pos (by omega), z]
    · rw [if_neg (fun y => z y.2), e j]
      by_cases y : j < k
      · rw [if_pos y, if_pos (by omega)]
      · rw [if_neg y, if_neg (by omega)]
theorem lay91M {N : Nat} {h0 : PH} (s0 : Shp h0) : ∀ (m k : Nat) (h : PH), k + m = 4 → FrI (fun b => b = 98 ∨ b = 99) h0 h → (∀ j, hI h 98 j = if j < k then hI h0 98 (4 + j) - 1000 else hI h0 98 j) → (∀ j, hI h 99 j = if j < k then hI h0 99 (4 + j) - 1000 else hI h0 99 j) → ∀ fuel, m < fuel → Wp (Mo_lays_b91 N fuel 92 (iv k) h) (fun _ h2 => FrI (fun b => b = 98 ∨ b = 99) h0 h2 ∧ (∀ j, j < 4 → hI h2 98 j = hI h0 98 (4 + j) - 1000) ∧ ∀ j, j < 4 → hI h2 99 j = hI h0 99 (4 + j) - 1000)
  | m, k, h, hk, f, e, e2, fuel, hf => by
    obtain ⟨fu, rfl⟩ : ∃ g, fuel = g + 1 := ⟨fuel - 1, by omega⟩
    have s := f.shp s0
    rw [Mo_lays_b91, il4]
    refine Wp_if (fun c => ?_) (fun c => ?_)
    · rw [iv_le (by omega) (by omega) (by omega) (by omega)] at c
      exact Wp_ret ⟨f, fun j hj => by rw [e j, if_pos (by omega)], fun j hj => by rw [e2 j, if_pos (by omega)]⟩
    · rw [iv_le (by omega) (by omega) (by omega) (by omega)] at c
      obtain ⟨m2, rfl⟩ : ∃ g, m = g + 1 := ⟨m - 1, by omega⟩
      rw [iv_add, il1, iv_add]
      refine Wp_ck (by rw [k92 s]) (Wp_bn (p92_14 s) (Wp_ck (by rw [k98 s]) (Wp_ck (by rw [k98 s]; exact inb_iv (by omega) (by omega) (by omega)) (Wp_ck (by rw [k98 s]; exact inb_iv (by omega) (by omega) (by omega)) (Wp_lt ?_)))))
      rw [ix_nat (by omega), ix_iv (by omega) (by omega), show (4 + (k : Int)).toNat = 4 + k from by omega]
      have f1 : FrI (fun b => b = 98 ∨ b = 99) h0 (wI h 98 k (hI h 98 (4 + k) - 1000)) := f.w (Or.inl rfl)
      have s1 := f1.shp s0
      refine Wp_bn (p92_15 s1) (Wp_ck (by rw [k99 s1]) (Wp_ck (by rw [k99 s1]; exact inb_iv (by omega) (by omega) (by omega)) (Wp_ck (by rw [k99 s1]; exact inb_iv (by omega) (by omega) (by omega)) (Wp_lt ?_))))
      refine lay91M s0 m2 (k + 1) _ (by omega) (f1.w (Or.inr rfl)) (fun j => ?_) (fun j => ?_) fu (by omega)
      · rw [hI_wI, if_neg (by omega), hI_wI, show hI h 98 (4 + k) = hI h0 98 (4 + k) from by rw [e (4 + k), if_neg (by omega)]]
        by_cases z : j = k
        · rw [if_pos ⟨rfl, z⟩, if_pos (by omega), z]
        · rw [if_neg (fun y => z y.2), e j]
          by_cases y : j < k
          · rw [if_pos y, if_pos (by omega)]
          · rw [if_neg y, if_neg (by omega)]
      · rw [hI_wI, show hI (wI h 98 k (hI h 98 (4 + k) - 1000)) 99 (4 + k) = hI h0 99 (4 + k) from by rw [hI_wI, if_neg (by omega), e2 (4 + k), if_neg (by omega)]]
        by_cases z : j = k
        · rw [if_pos ⟨rfl, z⟩, if_pos (by omega), z]
        · rw [if_neg (fun y => z y.2), hI_wI, if_neg (by omega), e2 j]
          by_cases y : j < k
          · rw [if_pos y, if_pos (by omega)]
          · rw [if_neg y, if_neg (by omega)]
theorem laysM {N : Nat} {h : PH} (hN : 1100 ≤ N) (s : Shp h) : Wp (Mo_lays N 92 h) (fun _ h2 => FrI (fun b => 94 ≤ b ∧ b ≤ 100) h h2 ∧ (∀ j, j < 18 → hI h2 94 j = hI h 94 (18 + j)) ∧ (∀ j, j < 96 → hI h2 95 j = hI h 95 (96 + j)) ∧ (∀ j, j < 1000 → hI h2 100 j = hI h 100 (1000 + j)) ∧ (∀ j, j < 4 → hI h2 98 j = hI h 98 (4 + j) - 1000) ∧ ∀ j, j < 4 → hI h2 99 j = hI h 99 (4 + j) - 1000) := by
  unfold Mo_lays
  refine lay2M s (fun h1 f1 a1 => ?_) 18 0 h (by omega) FrI.rf (fun j => by rw [if_neg (by omega)]) N (by omega)
  have s1 := f1.shp s
  refine lay31M s1 (fun h2 f2 a2 => ?_) 96 0 h1 (by omega) FrI.rf (fun j => by rw [if_neg (by omega)]) N (by omega)
  have s2 := f2.shp s1
  refine lay60M s2 (fun h3 f3 a3 => ?_) 1000 0 h2 (by omega) FrI.rf (fun j => by rw [if_neg (by omega)]) N (by omega)
  have s3 := f3.shp s2
  refine Wp_mono (lay91M s3 4 0 h3 (by omega) FrI.rf (fun j => by rw [if_neg (by omega)]) (fun j => by rw [if_neg (by omega)]) N (by omega)) ?_
  rintro - h4 ⟨f4, a4, a5⟩
  refine ⟨(((f1.up (fun b e => by omega)).tr (f2.up (fun b e => by omega))).tr (f3.up (fun b e => by omega))).tr (f4.up (fun b e => by omega)), fun j hj => ?_, fun j hj => ?_, fun j hj => ?_, fun j hj => ?_, fun j hj => ?_⟩
  · rw [f4.I (by omega), f3.I (by omega), f2.I (by omega)]; exact a1 j hj
  · rw [f4.I (by omega), f3.I (by omega), a2 j hj, f1.I (by omega)]
  · rw [f4.I (by omega), a3 j hj, f2.I (by omega), f1.I (by omega)]
  · rw [a4 j hj, f3.I (by omega), f2.I (by omega), f1.I (by omega)]
  · rw [a5 j hj, f3.I (by omega), f2.I (by omega), f1.I (by omega)]
theorem freshM {N : Nat} {H C : Nat → Int} {h : PH} (hN : 100 ≤ N) (s : Shp h) (hs : HsM H C h) : Wp (Mo_fresh N 92 h) (fun _ h2 => FrI (fun b => b = 116) h h2 ∧ NtM (begM H) h2) := by
  have key : ∀ (m k : Nat) (h1 : PH), k + m = 14 → FrI (fun b => b = 116) h h1 → (∀ i, i < k → hI h1 116 i = iv 0) → ∀ fuel, m < fuel → Wp (Mo_fresh_b2 N fuel 92 (iv k) h1) (fun _ h2 => FrI (fun b => b = 116) h h2 ∧ NtM (begM H) h2) := by
    intro m
    induction m with
    | zero =>
      intro k h1 hk f e fuel hf
      obtain ⟨fu, rfl⟩ : ∃ g, fuel = g + 1 := ⟨fuel - 1, by omega⟩
      obtain rfl : k = 14 := by omega
      have s1 := f.shp s
      have eh : ∀ {h2}, FrI (fun b => b = 116) h h2 → ∀ k, k < 18 → hI h2 94 k = iv (H k) := fun g k hk => by rw [g.I (by omega)]; exact hs.1 k hk
      rw [Mo_fresh_b2]
      refine Wp_ifp (by decide) (Wp_ck (by rw [k92 s1]) (Wp_bn (p92_10 s1) (Wp_ck (by rw [k94 s1]) (Wp_ck (by rw [k94 s1]; decide) (Wp_bn (p92_35 s1) (Wp_ck (by rw [k116 s1]) (Wp_ck (by rw [k116 s1]; decide) (Wp_lt ?_))))))))
      rw [show ix 1 = 1 from rfl, show ix 2 = 2 from rfl, show ix 13 = 13 from rfl, eh f 1 (by omega)]
      have f1 : FrI (fun b => b = 116) h (wI h1 116 1 (iv (H 1))) := f.w rfl
      have s2 := f1.shp s
      refine Wp_bn (p92_10 s2) (Wp_ck (by rw [k94 s2]) (Wp_ck (by rw [k94 s2]; decide) (Wp_bn (p92_35 s2) (Wp_ck (by rw [k116 s2]) (Wp_ck (by rw [k116 s2]; decide) (Wp_lt ?_))))))
      rw [eh f1 2 (by omega)]
      have f2 : FrI (fun b => b = 116) h (wI (wI h1 116 1 (iv (H 1))) 116 2 (iv (H 2))) := f1.w rfl
      have s3 := f2.shp s
      refine Wp_bn (p92_10 s3) (Wp_ck (by rw [k94 s3]) (Wp_ck (by rw [k94 s3]; decide) (Wp_bn (p92_35 s3) (Wp_ck (by rw [k116 s3]) (Wp_ck (by rw [k116 s3]; decide) (Wp_lt ?_))))))
      rw [eh f2 13 (by omega), il100000, iv_mul]
      refine Wp_ret ⟨f2.w rfl, fun k hk => ?_⟩
      rw [hI_wI]
      unfold begM
      by_cases z : k = 13
      · rw [if_pos ⟨rfl, z⟩, if_neg (by omega), if_neg (by omega), if_pos z]
      · rw [if_neg (fun y => z y.2), hI_wI]
        by_cases y : k = 2
        · rw [if_pos ⟨rfl, y⟩, if_neg (by omega), if_pos y]
        · rw [if_neg (fun w => y w.2), hI_wI]
          by_cases w : k = 1
          · rw [if_pos ⟨rfl, w⟩, if_pos w]
          · rw [if_neg (fun v => w v.2), if_neg w, if_neg y, if_neg z]
            exact e k hk
    | succ m ih =>
      intro k h1 hk f e fuel hf
      obtain ⟨fu, rfl⟩ : ∃ g, fuel = g + 1 := ⟨fuel - 1, by omega⟩
      have s1 := f.shp s
      rw [Mo_fresh_b2, show (14 : Int32) = iv 14 from iv_lit _]
      refine Wp_ifn (by rw [iv_le (by omega) (by omega) (by omega) (by omega)]; omega) (Wp_ck (by rw [k92 s1]) (Wp_bn (p92_35 s1) (Wp_ck (by rw [k116 s1]) (Wp_ck (by rw [k116 s1]; exact inb_iv (by omega) (by omega) (by omega)) (Wp_lt ?_)))))
      rw [ix_nat (by omega), il1, iv_add, il0]
      refine ih (k + 1) _ (by omega) (f.w rfl) (fun i hi => ?_) fu (by omega)
      rw [hI_wI]
      by_cases z : i = k
      · rw [if_pos ⟨rfl, z⟩]
      · rw [if_neg (fun y => z y.2)]; exact e i (by omega)
  unfold Mo_fresh
  exact key 14 0 h (by omega) FrI.rf (fun i hi => by omega) N (by omega)
/-- the reference has moved in -/
def MvM (m : Nat) (H C : Nat → Int) (E : Nat → Ex) (h : PH) : Prop := HsM H C h ∧ (∀ k, k < (catI E m).length → hI h 100 k = iv ((catI E m).getD k 0)) ∧ (∀ i, i < m → hI h 98 i = iv ((catI E i).length : Nat) ∧ hI h 99 i = iv ((catI E (i + 1)).length : Nat)) ∧ NtM (begM H) h ∧ hI h 113 0 = iv 0 ∧ hI h 92 40 = iv 0 ∧ ∀ i, i < 4 → hZ h 120 i = false
theorem laidM {N : Nat} {h0 : PH} (s0 : Shp h0) : ∀ (m k : Nat) (h : PH), k + m = 4 → FrS (fun b => b = 120) h0 h → hI h = hI h0 → (∀ i, i < k → hZ h 120 i = false) → ∀ fuel, m < fuel → Wp (Mo_house_b39 N fuel 92 (iv k) h) (fun v h2 => v = iv 0 ∧ FrS (fun b => b = 120) h0 h2 ∧ hI h2 = hI h0 ∧ ∀ i, i < 4 → hZ h2 120 i = false)
  | m, k, h, hk, f, eI, e, fuel, hf => by
    obtain ⟨fu, rfl⟩ : ∃ g, fuel = g + 1 := ⟨fuel - 1, by omega⟩
    have s := f.shp s0
    rw [Mo_house_b39, il4]
    refine Wp_if (fun c => ?_) (fun c => ?_)
    · rw [iv_le (by omega) (by omega) (by omega) (by omega)] at c
      exact Wp_ret ⟨rfl, f, eI, fun i hi => e i (by omega)⟩
    · rw [iv_le (by omega) (by omega) (by omega) (by omega)] at c
      obtain ⟨m2, rfl⟩ : ∃ g, m = g + 1 := ⟨m - 1, by omega⟩
      rw [il1, iv_add]
      refine Wp_ck (by rw [k92 s]) (Wp_bn (p92_39 s) (Wp_ck (by rw [k120 s]) (Wp_ck (by rw [k120 s]; exact inb_iv (by omega) (by omega) (by omega)) (Wp_lt ?_))))
      rw [ix_nat (by omega), show tb 0 = false from tb_0]
      refine laidM s0 m2 (k + 1) _ (by omega) (f.aZ rfl) eI (fun i hi => ?_) fu (by omega)
      rw [hZ_wZ]
      by_cases z : i = k
      · rw [if_pos ⟨rfl, z⟩]
      · rw [if_neg (fun y => z y.2)]; exact e i (by omega)
/-- the call 'house', the reference's way -/
theorem moHouM {N : Nat} {T : Nat → Int} {L : Nat} {h : PH} (hN : 1100 ≤ N) (x : Tx0 T L h) : Wp (Mo_house N 92 h) (fun v h2 => FrS (fun b => b = 92 ∨ (94 ≤ b ∧ b ≤ 102) ∨ (113 ≤ b ∧ b ≤ 116) ∨ b = 120) h h2 ∧ hI h2 92 1 = iv 0 ∧ hI h2 92 0 = iv 0 ∧ match hoR T L with
    | .inl f => v = iv f ∧ 0 < f ∧ f < 1048576 ∧ (∀ a, 113 ≤ a → a ≤ 116 → hI h2 a = hI h a) ∧ hZ h2 120 = hZ h 120 ∧ hI h2 92 40 = hI h 92 40 ∧ (∀ j, j < 18 → hI h2 94 j = hI h 94 j) ∧ (∀ j, j < 96 → hI h2 95 j = hI h 95 j) ∧ (∀ j, j < 4 → hI h2 98 j = hI h 98 j ∧ hI h2 99 j = hI h 99 j) ∧ (∀ j, j < 1000 → hI h2 100 j = hI h 100 j)
    | .inr S => v = iv 0 ∧ SOK T L S ∧ (catI (sE S) (sH S 15).toNat).length ≤ 1000 ∧ MvM (sH S 15).toNat (sH S) (sC S) (sE S) h2) := by
  obtain ⟨s, hL, okT, e1, eT⟩ := x
  unfold Mo_house
  refine Wp_ck (by rw [k92 s]) (Wp_lt ?_)
  rw [il0]
  have g0 : FrI (fun b => b = 92) h (wI h 92 0 (iv 0)) := FrI.rf.w1
  have s1 := g0.shp s
  have o0 : hI (wI h 92 0 (iv 0)) 92 0 = iv 0 := by rw [hI_wI, if_pos ⟨rfl, rfl⟩]
  have oj : ∀ j, j ≠ 0 → hI (wI h 92 0 (iv 0)) 92 j = hI h 92 j := fun j z => by rw [hI_wI, if_neg (by omega)]
  generalize (wI h 92 0 (iv 0)) = h1 at g0 s1 o0 oj ⊢
  have x1 : Tx0 T L h1 := ⟨s1, hL, okT, (oj 1 (by omega)).trans e1, fun k hk => by rw [g0.I (by omega)]; exact eT k hk⟩
  refine Wp_bd2 (readsAllM hN x1) ?_
  rintro v h2 ⟨f2, c1, c2, c3, c4, c5, c6, c7, c8, r2⟩
  have s2 := f2.shp s1
  have F2 : FrS (fun b => b = 92 ∨ (94 ≤ b ∧ b ≤ 102) ∨ (113 ≤ b ∧ b ≤ 116) ∨ b = 120) h h2 := (g0.s.up (fun b e => Or.inl e)).tr (f2.up (fun b e => by omega))
  cases eh : hoR T L with
  | inl f =>
    rw [eh] at r2
    obtain ⟨rfl, r3, r4⟩ := r2
    refine Wp_ifp rfl (Wp_ck (by rw [k92 s2]) (Wp_ret ⟨F2, c2, c3.trans o0, r3, r4.1, r4.2, fun a z y => ?_, ?_, ?_, fun j hj => ?_, fun j hj => ?_, fun j hj => ⟨?_, ?_⟩, fun j hj => ?_⟩))
    · by_cases w : a = 116
      · rw [w, (f2.2.2.2 116 (by omega)).1, g0.2.2.2.2.2 116 (by omega)]
      · rw [c1 a z (by omega), g0.2.2.2.2.2 a (by omega)]
    · rw [(f2.2.2.2 120 (by omega)).2.2, g0.2.2.2.1]
    · rw [c4, oj 40 (by omega)]
    · rw [c5 j hj, g0.I (by omega)]
    · rw [c6 j hj, g0.I (by omega)]
    · rw [(c7 j hj).1, g0.I (by omega)]
    · rw [(c7 j hj).2, g0.I (by omega)]
    · rw [c8 j hj, g0.I (by omega)]
  | inr S =>
    rw [eh] at r2
    obtain ⟨rfl, t2, ok, hl⟩ := r2
    obtain ⟨a1, b1, d1, y1, z1, i1, j1⟩ := t2
    have h15 : 0 ≤ sH S 15 ∧ sH S 15 ≤ 4 := ok.1.2.2.2.2.2.2.2.2.2.2.2.2.2.2.2.1
    refine Wp_ifn (by decide) (Wp_ck (by rw [k92 s2]) (Wp_bd2 (laysM hN s2) ?_))
    rintro - h3 ⟨f3, u1, u2, u3, u4, u5⟩
    have s3 := f3.shp s2
    have hs3 : HsM (sH S) (sC S) h3 := ⟨fun k hk => (u1 k hk).trans (a1 k hk), fun k hk => (u2 k hk).trans (b1 k hk)⟩
    refine Wp_ck (by rw [k92 s3]) (Wp_bd2 (freshM (by omega) s3 hs3) ?_)
    rintro - h4 ⟨f4, n4⟩
    have s4 := f4.shp s3
    refine Wp_ck (by rw [k92 s4]) (Wp_bn (p92_32 s4) (Wp_ck (by rw [k113 s4]) (Wp_ck (by rw [k113 s4]; decide) (Wp_lt (Wp_lt ?_)))))
    rw [show ix (iv 0) = 0 from rfl]
    have g5 : FrI (fun b => b = 113 ∨ b = 92) h4 (wI (wI h4 113 0 (iv 0)) 92 40 (iv 0)) := FrI.w (S := fun b => b = 113 ∨ b = 92) (FrI.w (S := fun b => b = 113 ∨ b = 92) FrI.rf (Or.inl rfl)) (Or.inr rfl)
    have o1 : hI (wI (wI h4 113 0 (iv 0)) 92 40 (iv 0)) 113 0 = iv 0 := by rw [hI_wI, if_neg (by omega), hI_wI, if_pos ⟨rfl, rfl⟩]
    have o2 : hI (wI (wI h4 113 0 (iv 0)) 92 40 (iv 0)) 92 40 = iv 0 := by rw [hI_wI, if_pos ⟨rfl, rfl⟩]
    have o3 : ∀ j, j ≠ 40 → hI (wI (wI h4 113 0 (iv 0)) 92 40 (iv 0)) 92 j = hI h4 92 j := fun j z => by rw [hI_wI, if_neg (by omega), hI_wI, if_neg (by omega)]
    generalize (wI (wI h4 113 0 (iv 0)) 92 40 (iv 0)) = h5 at g5 o1 o2 o3 ⊢
    have s5 := g5.shp s4
    refine Wp_mono (laidM s5 4 0 h5 (by omega) FrS.rf rfl (fun i hi => by omega) N (by omega)) ?_
    rintro v h6 ⟨rfl, f6, eI, z6⟩
    have e1 : ∀ j, j ≠ 40 → hI h6 92 j = hI h2 92 j := fun j z => by rw [eI, o3 j z, f4.I (by omega), f3.I (by omega)]
    refine ⟨(((F2.tr (f3.s.up (fun b e => by omega))).tr (f4.s.up (fun b e => by omega))).tr (g5.s.up (fun b e => by omega))).tr (f6.up (fun b e => by omega)), (e1 1 (by omega)).trans c2, (e1 0 (by omega)).trans (c3.trans o0), rfl, ok, hl, ⟨fun k hk => ?_, fun k hk => ?_⟩, fun k hk => ?_, fun i hi => ⟨?_, ?_⟩, fun k hk => ?_, ?_, ?_, z6⟩
    · rw [eI, g5.I (by omega), f4.I (by omega)]; exact hs3.1 k hk
    · rw [eI, g5.I (by omega), f4.I (by omega)]; exact hs3.2 k hk
    · rw [eI, g5.I (by omega), f4.I (by omega), u3 k (by omega)]; exact i1.2 k hk
    · rw [eI, g5.I (by omega), f4.I (by omega), u4 i (by omega), (j1 i hi).1, show (1000 : Int32) = iv 1000 from iv_lit _, iv_sub]
      congr 1
      omega
    · rw [eI, g5.I (by omega), f4.I (by omega), u5 i (by omega), (j1 i hi).2, show (1000 : Int32) = iv 1000 from iv_lit _, iv_sub]
      congr 1
      omega
    · rw [eI, g5.I (by omega)]; exact n4 k hk
    · rw [eI]; exact o1
    · rw [eI]; exact o2
