/-! THE PURE PROOFS, 65: the class reads a house, from its first word. -/
theorem toldL {N : Nat} {h0 : PH} {Q : Int32 → PH → Prop} (s0 : Shp h0) (next : ∀ h2, FrHl h0 h2 → hI h2 = hI h0 → hJ h2 = hJ h0 → (∀ c, c ≠ 30 → hZ h2 c = hZ h0 c) → (∀ w, w < 11 → hZ h2 30 w = false) → Wp (Re_readHouse_b38 N N 28 0 h2) Q) : ∀ (m k : Nat) (h : PH), k + m = 11 → FrHl h0 h → hI h = hI h0 → hJ h = hJ h0 → (∀ c, c ≠ 30 → hZ h c = hZ h0 c) → (∀ w, w < k → hZ h 30 w = false) → ∀ fuel, m < fuel → Wp (Re_readHouse_b14 N fuel 28 (iv k) h) Q
  | m, k, h, hk, f, e1, e2, e3, e4, fuel, hf => by
    obtain ⟨fu, rfl⟩ : ∃ g, fuel = g + 1 := ⟨fuel - 1, by omega⟩
    have s := f.1.shp s0
    rw [Re_readHouse_b14]
    refine Wp_ck (by rw [k28 s]) (Wp_bn (p28_4 s) (Wp_ck (by rw [k30 s]) ?_))
    rw [k30 s, ofN]
    refine Wp_if (fun c => ?_) (fun c => ?_)
    · rw [iv_le (by omega) (by omega) (by omega) (by omega)] at c
      exact next h f e1 e2 e3 (fun w hw => e4 w (by omega))
    · rw [iv_le (by omega) (by omega) (by omega) (by omega)] at c
      refine Wp_ck (inb_iv (by omega) (by omega) (by omega)) (Wp_lt ?_)
      rw [ix_nat (by omega), tb_0, il1, iv_add]
      obtain ⟨m2, rfl⟩ : ∃ g, m = g + 1 := ⟨m - 1, by omega⟩
      refine toldL s0 next m2 (k + 1) _ (by omega) (f.z (Or.inl rfl)) e1 e2 (fun c hc => ?_) (fun w hw => ?_) fu (by omega)
      · rw [← e3 c hc]
        exact u2_ne hc
      · rw [hZ_wZ]
        by_cases d : w = k
        · rw [if_pos ⟨rfl, d⟩]
        · rw [if_neg (fun z => d z.2)]
          exact e4 w (by omega)
theorem calledL {N : Nat} {h0 : PH} {Q : Int32 → PH → Prop} (s0 : Shp h0) (next : ∀ fu h2, FrHl h0 h2 → hI h2 = hI h0 → hJ h2 = hJ h0 → (∀ c, c ≠ 31 → hZ h2 c = hZ h0 c) → (∀ w, w < 24 → hZ h2 31 w = false) → Wp (Re_readHouse_b38 N (fu + 1) 28 (iv ((24 : Nat) : Int)) h2) Q) : ∀ (m k : Nat) (h : PH), k + m = 24 → FrHl h0 h → hI h = hI h0 → hJ h = hJ h0 → (∀ c, c ≠ 31 → hZ h c = hZ h0 c) → (∀ w, w < k → hZ h 31 w = false) → ∀ fuel, m < fuel → Wp (Re_readHouse_b38 N fuel 28 (iv k) h) Q
  | 0, k, h, hk, f, e1, e2, e3, e4, fuel, hf => by
    obtain ⟨fu, rfl⟩ : ∃ g, fuel = g + 1 := ⟨fuel - 1, by omega⟩
    obtain rfl : k = 24 := by omega
    exact next fu h f e1 e2 e3 e4
  | m + 1, k, h, hk, f, e1, e2, e3, e4, fuel, hf => by
    obtain ⟨fu, rfl⟩ : ∃ g, fuel = g + 1 := ⟨fuel - 1, by omega⟩
    have s := f.1.shp s0
    rw [Re_readHouse_b38]
    refine Wp_ck (by rw [k28 s]) (Wp_bn (p28_5 s) (Wp_ck (by rw [k31 s]) ?_))
    rw [k31 s, ofN]
    refine Wp_ifn (by rw [iv_le (by omega) (by omega) (by omega) (by omega)]; omega) (Wp_ck (inb_iv (by omega) (by omega) (by omega)) (Wp_lt ?_))
    rw [ix_nat (by omega), tb_0, il1, iv_add]
    refine calledL s0 next m (k + 1) _ (by omega) (f.z (Or.inr rfl)) e1 e2 (fun c hc => ?_) (fun w hw => ?_) fu (by omega)
    · rw [← e3 c hc]
      exact u2_ne hc
    · rw [hZ_wZ]
      by_cases d : w = k
      · rw [if_pos ⟨rfl, d⟩]
      · rw [if_neg (fun z => d z.2)]
        exact e4 w (by omega)
def S0 : Sta := mkS H1 C1 (fun _ => 0) (fun _ => 0) (fun _ => 0) (fun _ => xnum 0)
theorem readHouseL {N : Nat} {T : Nat → Int} {L : Nat} {h : PH} (hN : 1100 ≤ N) (x : TxL T L h) (e0 : hI h 17 0 = iv 0) : Wp (Re_readHouse N 28 h) (fun v h2 => FrHl h h2 ∧ match hoR T L with
    | .inl f => v = iv f ∧ 0 < f ∧ f < 1048576
    | .inr S => v = iv 0 ∧ StaL T L S h2 ∧ SOK T L S ∧ WeL 16 (sC S) h2 ∧ (catP (sE S) (sH S 15).toNat).length ≤ 1000) := by
  have s := x.1
  unfold Re_readHouse
  refine Wp_ck (by rw [k28 s]) (Wp_bn (p28_1 s) (Wp_ck (by rw [k16 s]) (Wp_bd2 (hoBeginL (b := 16) (by omega) (k16 s) (k17 s) (k18 s) (p16_14 s) (p16_15 s)) ?_)))
  rintro - h1 ⟨f1, a1, a2, a3, a4, a5⟩
  have g1 : FrHl h h1 := ⟨f1.s.up (fun b e => by omega), f1.I (by omega) 1, a3⟩
  have s1 := f1.shp s
  refine Wp_ck (by rw [k28 s1]) (Wp_lt ?_)
  rw [il0]
  have g2 : FrHl h (wI h1 28 6 (iv 0)) := g1.w (by omega)
  have b1 : ∀ f, f < 13 → hI (wI h1 28 6 (iv 0)) 16 f = iv (cf H1 f) := fun f hf => by rw [hI_wI, if_neg (by omega)]; exact a1 f hf
  have b2 : hI (wI h1 28 6 (iv 0)) 16 13 = iv 0 := by rw [hI_wI, if_neg (by omega)]; exact a2
  have b4 : ∀ n : Nat, n < 4 → hI (wI h1 28 6 (iv 0)) 17 n = iv (wsm H1 n) := fun n hn => by
    rw [hI_wI, if_neg (by omega)]
    by_cases c : n = 0
    · rw [c]
      show hI h1 (16 + 1) 0 = iv (wsm H1 ((0 : Nat) : Int))
      rw [a3]
      exact e0
    · exact a4 n (by omega) hn
  have b5 : ∀ k, k < 96 → hI (wI h1 28 6 (iv 0)) 18 k = iv (C1 k) := fun k hk => by rw [hI_wI, if_neg (by omega)]; exact a5 k hk
  have b6 : hI (wI h1 28 6 (iv 0)) 28 6 = iv 0 := by rw [hI_wI, if_pos ⟨rfl, rfl⟩]
  have s2 := g2.1.shp s
  generalize (wI h1 28 6 (iv 0)) = h2 at g2 b1 b2 b4 b5 b6 s2 ⊢
  refine toldL s2 (fun h3 f3 c1 c2 c3 c4 => ?_) 11 0 h2 (by omega) FrHl.rf rfl rfl (fun _ _ => rfl) (fun w hw => by omega) N (by omega)
  have s3 := f3.1.shp s2
  refine calledL s3 (fun fu h4 f4 d1 d2 d3 d4 => ?_) 24 0 h3 (by omega) FrHl.rf rfl rfl (fun _ _ => rfl) (fun w hw => by omega) N (by omega)
  have s4 := f4.1.shp s3
  have g4 := (g2.tr f3).tr f4
  have x4 := g4.tx x
  have t4 : StaL T L S0 h4 := by
    refine ⟨⟨fun f hf => ?_, fun k hk => ?_, ?_, fun k hk => ?_, fun k hk => ?_, fun k hk => ?_, ⟨?_, fun k hk => ?_⟩, fun k hk => ?_⟩, fun n hn => ?_⟩
    · rw [d1, c1]; exact b1 f hf
    · rw [d1, c1]; exact b5 k hk
    · rw [d1, c1]; exact b6
    · rw [d4 k hk]; rfl
    · rw [d3 30 (by omega), c4 k hk]; rfl
    · exact absurd hk (Nat.not_lt_zero k)
    · rw [d1, c1]; exact b2
    · exact absurd hk (Nat.not_lt_zero k)
    · exact absurd hk (Nat.not_lt_zero k)
    · rw [d1, c1]; exact b4 n hn
  rw [Re_readHouse_b38]
  refine Wp_ck (by rw [k28 s4]) (Wp_bn (p28_5 s4) (Wp_ck (by rw [k31 s4]) ?_))
  rw [k31 s4, ofN]
  refine Wp_ifp (Int32.le_refl _) (Wp_bn (p28_0 s4) (Wp_ck (by rw [k7 s4]) ?_))
  unfold Ta_rewind
  refine Wp_bd2 (P := fun _ h5 => Fr7 h4 h5 ∧ LexL T L 0 h5) (Wp_ck (by rw [k7 s4]) (Wp_lt (Wp_lt (Wp_lt ?_)))) ?_
  · rw [il0]
    have f5 : Fr7 h4 (wI (wI (wI h4 7 8 (iv 0)) 7 3 (iv 0)) 7 4 (iv 0)) := ((Fr7.rf.w (by omega)).w (by omega)).w (by omega)
    refine Wp_bd2 (stepL (p := 0) hN (f5.tx x4) (by omega) ?_ ?_) ?_
    · rw [hI_wI, if_neg (by omega), hI_wI, if_pos ⟨rfl, rfl⟩, hI_wI, if_pos ⟨rfl, rfl⟩]
      rfl
    · rw [hI_wI, if_neg (by omega), hI_wI, if_neg (by omega), hI_wI, if_pos ⟨rfl, rfl⟩]
    · rintro - h6 ⟨f6, l6⟩
      exact Wp_ret ⟨f5.tr f6, l6⟩
  · rintro - h5 ⟨f5, l5⟩
    have x5 := f5.tx x4
    have t5 := t4.f7 f5
    have r5 : RdS T L (.inr 0) h5 := ⟨l5, Nat.zero_le _⟩
    rw [il0]
    refine Wp_ck (by rw [k28 x5.1]) (Wp_bd2 (keywordR hN x5 r5 (by omega)) ?_)
    rintro - h6 ⟨f6, r6⟩
    have x6 := f6.tx x5
    have t6 := t5.f7 f6
    refine Wp_ck (by rw [k28 x6.1]) (numFld (lo := 1) (hi := 24) (k := 0) hN x6 r6 t6 il1 il24 (by omega) (by omega) (by omega) (fun v g hg => by (have cc : g = 0 ∨ g = 1 ∨ g = 2 ∨ g = 3 ∨ g = 4 ∨ g = 5 ∨ g = 6 ∨ g = 7 ∨ g = 8 ∨ g = 9 ∨ g = 10 ∨ g = 11 ∨ g = 12 := by omega); (rcases cc with rfl | rfl | rfl | rfl | rfl | rfl | rfl | rfl | rfl | rfl | rfl | rfl | rfl <;> rfl)) (fun v n hn => rfl) (by omega) (by omega) ?_)
    intro h7 f7 x7 r7 t7
    have g7 : FrHl h h7 := ((g4.tr f5.hl).tr f6.hl).tr f7
    rw [show (59 : Int32) = iv 59 from iv_lit _]
    refine Wp_ck (by rw [k28 x7.1]) (Wp_bd2 (signR hN x7 r7 (by omega)) ?_)
    rintro - h8 ⟨f8, r8⟩
    have x8 := f8.tx x7
    have t8 := t7.f7 f8
    have r8' : RdS T L (sgnR T L 59 (numP T L 1 24 (hoR0 T L))) h8 := r8
    have t8' : StaL T L (S1 (numZ T L 1 24 (hoR0 T L))) h8 := t8
    unfold hoR
    cases e : sgnR T L 59 (numP T L 1 24 (hoR0 T L)) with
    | inl f =>
      rw [e] at r8'
      exact readFaultL (k := 0) hN x8 r8' (g7.tr f8.hl) (by omega) (by omega)
    | inr p =>
      rw [e] at r8'
      obtain ⟨p1, e1⟩ := sgnR_in e
      exact readLoopL hN 1001 0 p _ h8 (by omega) (by omega) (g7.tr f8.hl) x8 r8'.1 r8'.2 t8' (S1_ok (numZ_in e1)) (Nat.zero_le _) N (by omega)
