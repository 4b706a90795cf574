/-! THE PURE PROOFS, 66: the class moves in (printed by gen88.py). -/
theorem cpS {h0 h : PH} {k : Nat} (p : FrI (fun c => c = 10) h0 h ∧ ∀ f, f < k → hI h 10 f = hI h0 16 f) : FrI (fun c => c = 10) h0 (wI h 10 k (hI h 16 k)) ∧ ∀ f, f < k + 1 → hI (wI h 10 k (hI h 16 k)) 10 f = hI h0 16 f := by
  refine ⟨p.1.w rfl, fun f hf => ?_⟩
  rw [hI_wI]
  by_cases c : f = k
  · rw [if_pos ⟨rfl, c⟩, c]
    exact p.1.I (by omega) k
  · rw [if_neg (fun z => c z.2)]
    exact p.2 f (by omega)
theorem hoCopyL {N m : Nat} {H C : Nat → Int} {E : Nat → Ex} {h : PH} (hN : 1100 ≤ N) (s : Shp h) (a1 : ∀ f, f < 13 → hI h 16 f = iv (cf H f)) (a2 : ∀ n : Nat, n < 4 → hI h 17 n = iv (wsm H n)) (a3 : ∀ k, k < 96 → hI h 18 k = iv (C k)) (a4 : WeL 16 C h) (a5 : StL (catP E m) h) (a6 : ∀ i, i < m → hI h 21 i = iv ((catP E (i + 1)).length : Nat)) (hm : H 15 = m) (m4 : m ≤ 4) (hl : (catP E m).length ≤ 1000) : Wp (Ho_copy N 10 (some 16) h) (fun _ h2 => FrI (fun c => 10 ≤ c ∧ c ≤ 15) h h2 ∧ HsL 10 H C h2 ∧ (∀ k, k < (catP E m).length → hI h2 14 k = iv ((catP E m).getD k 0)) ∧ ∀ i, i < m → hI h2 15 i = iv ((catP E (i + 1)).length : Nat)) := by
  unfold Ho_copy
  refine Wp_bn rfl (Wp_ck (by rw [k16 s]) (Wp_ck (by rw [k10 s]) ?_))
  have p0 : FrI (fun c => c = 10) h h ∧ ∀ f, f < 0 → hI h 10 f = hI h 16 f := ⟨FrI.rf, fun f hf => by omega⟩
  have p1 := cpS (k := 0) p0
  refine Wp_lt ?_
  generalize (wI h 10 0 (hI h 16 0)) = h1 at p1 ⊢
  clear p0
  have p2 := cpS (k := 1) p1
  refine Wp_lt ?_
  generalize (wI h1 10 1 (hI h1 16 1)) = h2 at p2 ⊢
  clear p1
  have p3 := cpS (k := 2) p2
  refine Wp_lt ?_
  generalize (wI h2 10 2 (hI h2 16 2)) = h3 at p3 ⊢
  clear p2
  have p4 := cpS (k := 3) p3
  refine Wp_lt ?_
  generalize (wI h3 10 3 (hI h3 16 3)) = h4 at p4 ⊢
  clear p3
  have p5 := cpS (k := 4) p4
  refine Wp_lt ?_
  generalize (wI h4 10 4 (hI h4 16 4)) = h5 at p5 ⊢
  clear p4
  have p6 := cpS (k := 5) p5
  refine Wp_lt ?_
  generalize (wI h5 10 5 (hI h5 16 5)) = h6 at p6 ⊢
  clear p5
  have p7 := cpS (k := 6) p6
  refine Wp_lt ?_
  generalize (wI h6 10 6 (hI h6 16 6)) = h7 at p7 ⊢
  clear p6
  have p8 := cpS (k := 7) p7
  refine Wp_lt ?_
  generalize (wI h7 10 7 (hI h7 16 7)) = h8 at p8 ⊢
  clear p7
  have p9 := cpS (k := 8) p8
  refine Wp_lt ?_
  generalize (wI h8 10 8 (hI h8 16 8)) = h9 at p9 ⊢
  clear p8
  have p10 := cpS (k := 9) p9
  refine Wp_lt ?_
  generalize (wI h9 10 9 (hI h9 16 9)) = h10 at p10 ⊢
  clear p9
  have p11 := cpS (k := 10) p10
  refine Wp_lt ?_
  generalize (wI h10 10 10 (hI h10 16 10)) = h11 at p11 ⊢
  clear p10
  have p12 := cpS (k := 11) p11
  refine Wp_lt ?_
  generalize (wI h11 10 11 (hI h11 16 11)) = h12 at p12 ⊢
  clear p11
  have p13 := cpS (k := 12) p12
  refine Wp_lt ?_
  generalize (wI h12 10 12 (hI h12 16 12)) = h13 at p13 ⊢
  clear p12
  have p14 := cpS (k := 13) p13
  refine Wp_lt ?_
  generalize (wI h13 10 13 (hI h13 16 13)) = h14 at p14 ⊢
  clear p13
  obtain ⟨f1, o1⟩ := p14
  have kk : ∀ {h2 : PH}, FrI (fun c => 10 ≤ c ∧ c ≤ 15) h h2 → Shp h2 := fun f => f.shp s
  have F1 : FrI (fun c => 10 ≤ c ∧ c ≤ 15) h h14 := f1.up (fun c e => by omega)
  have s1 := kk F1
  rw [p10_14 s1, p16_14 s1, show (4 : Int32) = iv ((4 : Nat) : Int) from iv_lit _]
  refine Wp_bd2 (copyRowL (n := 4) (by omega) (by omega) (k11 s1) (k17 s1) (by omega) (by omega) (by omega) (by omega)) ?_
  rintro - i1 ⟨g1, b1⟩
  have F2 := F1.tr (g1.up (T := fun c => 10 ≤ c ∧ c ≤ 15) (fun c e => by omega))
  have s2 := kk F2
  refine Wp_ck (by rw [k10 s2]) (Wp_ck (by rw [k16 s2]) ?_)
  rw [p10_15 s2, p16_15 s2, show (96 : Int32) = iv ((96 : Nat) : Int) from iv_lit _]
  refine Wp_bd2 (copyRowL (n := 96) (by omega) (by omega) (k12 s2) (k18 s2) (by omega) (by omega) (by omega) (by omega)) ?_
  rintro - i2 ⟨g2, b2⟩
  have F3 := F2.tr (g2.up (T := fun c => 10 ≤ c ∧ c ≤ 15) (fun c e => by omega))
  have s3 := kk F3
  refine Wp_ck (by rw [k10 s3]) (Wp_ck (by rw [k16 s3]) ?_)
  rw [p10_16 s3, p16_16 s3]
  refine Wp_bd2 (copyRowL (n := 96) (by omega) (by omega) (k13 s3) (k19 s3) (by omega) (by omega) (by omega) (by omega)) ?_
  rintro - i3 ⟨g3, b3⟩
  have F4 := F3.tr (g3.up (T := fun c => 10 ≤ c ∧ c ≤ 15) (fun c e => by omega))
  have s4 := kk F4
  refine Wp_ck (by rw [k10 s4]) (Wp_ck (by rw [k16 s4]) ?_)
  rw [p10_17 s4, p16_17 s4, F4.I (by omega), a5.1]
  refine Wp_bd2 (copyRowL (n := (catP E m).length) (by omega) (by omega) (k14 s4) (k20 s4) (by omega) (by omega) (by omega) (by omega)) ?_
  rintro - i4 ⟨g4, b4⟩
  have F5 := F4.tr (g4.up (T := fun c => 10 ≤ c ∧ c ≤ 15) (fun c e => by omega))
  have s5 := kk F5
  refine Wp_ck (by rw [k10 s5]) (Wp_ck (by rw [k16 s5]) ?_)
  have e12 : hI h 16 12 = iv (m : Int) := by rw [a1 12 (by omega), ← hm]; rfl
  rw [p10_18 s5, p16_18 s5, F5.I (by omega), e12]
  refine Wp_bd2 (copyRowL (n := m) (by omega) (by omega) (k15 s5) (k21 s5) (by omega) (by omega) (by omega) (by omega)) ?_
  rintro - i5 ⟨g5, b5⟩
  have F6 := F5.tr (g5.up (T := fun c => 10 ≤ c ∧ c ≤ 15) (fun c e => by omega))
  have fin : ∀ j, hI i5 10 j = hI h14 10 j := fun j => by rw [g5.I (by omega), g4.I (by omega), g3.I (by omega), g2.I (by omega), g1.I (by omega)]
  have w : ∀ f, f < 13 → hI i5 10 f = iv (cf H f) := fun f hf => by rw [fin, o1 f (by omega)]; exact a1 f hf
  refine Wp_ret ⟨F6, ⟨w 0 (by omega), w 1 (by omega), w 2 (by omega), w 3 (by omega), w 4 (by omega), w 5 (by omega), w 6 (by omega), w 7 (by omega), w 8 (by omega), w 9 (by omega), w 10 (by omega), w 11 (by omega), w 12 (by omega), fun n hn => ?_, fun k hk => ?_, fun q k hq hk => ?_⟩, fun k hk => ?_, fun i hi => ?_⟩
  · show hI i5 11 n = _
    rw [g5.I (by omega), g4.I (by omega), g3.I (by omega), g2.I (by omega), b1, if_pos hn, F1.I (by omega)]
    exact a2 n hn
  · show hI i5 12 k = _
    rw [g5.I (by omega), g4.I (by omega), g3.I (by omega), b2, if_pos hk, F2.I (by omega)]
    exact a3 k hk
  · show hI i5 13 (4 * q + k) = _
    rw [g5.I (by omega), g4.I (by omega), b3, if_pos (by omega), F3.I (by omega)]
    exact a4 q k hq hk
  · rw [g5.I (by omega), b4, if_pos hk, F4.I (by omega)]
    exact a5.2 k hk
  · rw [b5, if_pos hi, F5.I (by omega)]
    exact a6 i hi
def SMv (b : Nat) : Prop := b = 6 ∨ (10 ≤ b ∧ b ≤ 15) ∨ b = 22 ∨ b = 32 ∨ b = 36 ∨ b = 39 ∨ b = 42 ∨ b = 72 ∨ b = 77 ∨ b = 82 ∨ b = 87
theorem p35M {h : PH} (s : Shp h) : ∀ i, i < 4 → hR h 35 i = some (72 + 5 * i) := by
  intro i hi
  have c : i = 0 ∨ i = 1 ∨ i = 2 ∨ i = 3 := by omega
  rcases c with rfl | rfl | rfl | rfl
  · exact p35_0 s
  · exact p35_1 s
  · exact p35_2 s
  · exact p35_3 s
theorem kM {h : PH} (s : Shp h) : ∀ i, i < 4 → hK h (72 + 5 * i) = (1, 0) := by
  intro i hi
  have c : i = 0 ∨ i = 1 ∨ i = 2 ∨ i = 3 := by omega
  rcases c with rfl | rfl | rfl | rfl
  · exact k72 s
  · exact k77 s
  · exact k82 s
  · exact k87 s
theorem vaBeginL {N a : Nat} {v : Int32} {h : PH} (s : Shp h) (ka : hK h a = (9, 0)) (pa : hR h a 0 = some 10) (e : hI h 10 0 = v) : Wp (Va_begin N a h) (fun _ h2 => h2 = wI h a 5 v) := by
  unfold Va_begin
  refine Wp_ck (by rw [ka]) (Wp_bn pa (Wp_ck (by rw [k10 s]) (Wp_ltr ?_)))
  rw [e]
theorem moveMarksL {N : Nat} {h0 : PH} {v : Int32} (s0 : Shp h0) (e10 : hI h0 10 0 = v) : ∀ (m k : Nat) (h : PH), k + m = 4 → FrS (fun b => b = 72 ∨ b = 77 ∨ b = 82 ∨ b = 87) h0 h → hI h = hI h0 → (∀ i, i < k → hZ h (72 + 5 * i) 2 = false) → ∀ fuel, m < fuel → Wp (Le_moveIn_b36 N fuel 6 (iv k) h) (fun _ h2 => FrS (fun b => b = 36 ∨ b = 39 ∨ b = 42 ∨ b = 72 ∨ b = 77 ∨ b = 82 ∨ b = 87) h0 h2 ∧ (∀ b, b = 36 ∨ b = 39 ∨ b = 42 → hZ h2 b = hZ h0 b) ∧ (∀ i, i < 4 → hZ h2 (72 + 5 * i) 2 = false) ∧ hI h2 36 5 = v ∧ hI h2 39 5 = v ∧ hI h2 42 5 = v)
  | m, k, h, hk, f, eI, a, fuel, hf => by
    obtain ⟨fu, rfl⟩ : ∃ g, fuel = g + 1 := ⟨fuel - 1, by omega⟩
    have s := f.shp s0
    rw [Le_moveIn_b36]
    refine Wp_ck (by rw [k6 s]) (Wp_bn (p6_11 s) (Wp_ck (by rw [k35 s]) ?_))
    rw [k35 s, ofN]
    refine Wp_if (fun c => ?_) (fun c => ?_)
    · rw [iv_le (by omega) (by omega) (by omega) (by omega)] at c
      have g0 := f.up (T := fun b => b = 36 ∨ b = 39 ∨ b = 42 ∨ b = 72 ∨ b = 77 ∨ b = 82 ∨ b = 87) (fun b e => by omega)
      have e0 : hI h 10 0 = v := by rw [eI]; exact e10
      refine Wp_bn (p6_12 s) (Wp_ck (by rw [k36 s]) (Wp_bd2 (vaBeginL s (k36 s) (p36_0 s) e0) ?_))
      rintro - h1 rfl
      have g1 := g0.aI (a := 36) (i := 5) (v := v) (Or.inl rfl)
      have s1 := g1.shp s0
      refine Wp_ck (by rw [k6 s1]) (Wp_bn (p6_13 s1) (Wp_ck (by rw [k39 s1]) (Wp_bd2 (vaBeginL (v := v) s1 (k39 s1) (p39_0 s1) (by rw [hI_wI, if_neg (by omega)]; exact e0)) ?_)))
      rintro - h2 rfl
      have g2 := g1.aI (a := 39) (i := 5) (v := v) (Or.inr (Or.inl rfl))
      have s2 := g2.shp s0
      refine Wp_ck (by rw [k6 s2]) (Wp_bn (p6_14 s2) (Wp_ck (by rw [k42 s2]) (Wp_bd2 (vaBeginL (v := v) s2 (k42 s2) (p42_0 s2) (by rw [hI_wI, if_neg (by omega), hI_wI, if_neg (by omega)]; exact e0)) ?_)))
      rintro - h3 rfl
      have g3 := g2.aI (a := 42) (i := 5) (v := v) (Or.inr (Or.inr (Or.inl rfl)))
      refine Wp_ret ⟨g3, fun b hb => ?_, fun i hi => ?_, ?_, ?_, ?_⟩
      · show hZ h b = hZ h0 b
        exact (f.2.2.2 b (by omega)).2.2
      · exact a i (by omega)
      · rw [hI_wI, if_neg (by omega), hI_wI, if_neg (by omega), hI_wI, if_pos ⟨rfl, rfl⟩]
      · rw [hI_wI, if_neg (by omega), hI_wI, if_pos ⟨rfl, rfl⟩]
      · rw [hI_wI, if_pos ⟨rfl, rfl⟩]
    · rw [iv_le (by omega) (by omega) (by omega) (by omega)] at c
      have pk := p35M s k (by omega)
      refine Wp_ck (inb_iv (by omega) (by omega) (by omega)) ?_
      rw [ix_nat (by omega), pk]
      refine Wp_ifn (by simp) (Wp_ck (inb_iv (by omega) (by omega) (by omega)) (Wp_bn rfl (Wp_ck (by rw [kM s k (by omega)]) (Wp_lt ?_))))
      unfold Le_moveIn_b64
      rw [tb_0, il1, iv_add]
      obtain ⟨m2, rfl⟩ : ∃ g, m = g + 1 := ⟨m - 1, by omega⟩
      refine moveMarksL s0 e10 m2 (k + 1) _ (by omega) (f.aZ (by omega)) eI (fun i hi => ?_) fu (by omega)
      rw [hZ_wZ]
      by_cases d : i = k
      · rw [if_pos ⟨by omega, rfl⟩]
      · rw [if_neg (by omega)]
        exact a i (by omega)
/-- moved in -/
def MvL (m : Nat) (H C : Nat → Int) (E : Nat → Ex) (h : PH) : Prop := HsL 10 H C h ∧ (∀ k, k < (catP E m).length → hI h 14 k = iv ((catP E m).getD k 0)) ∧ (∀ i, i < m → hI h 15 i = iv ((catP E (i + 1)).length : Nat)) ∧ NtL 32 (begM H) h ∧ hI h 22 2 = iv 0 ∧ hI h 6 9 = iv 0 ∧ hI h 6 10 = iv 0 ∧ (∀ i, i < 4 → hZ h (72 + 5 * i) 2 = false) ∧ hI h 36 5 = iv (H 0) ∧ hI h 39 5 = iv (H 0) ∧ hI h 42 5 = iv (H 0)
theorem moveInL {N m : Nat} {H C : Nat → Int} {E : Nat → Ex} {h : PH} (hN : 1100 ≤ N) (s : Shp h) (a1 : ∀ f, f < 13 → hI h 16 f = iv (cf H f)) (a2 : ∀ n : Nat, n < 4 → hI h 17 n = iv (wsm H n)) (a3 : ∀ k, k < 96 → hI h 18 k = iv (C k)) (a4 : WeL 16 C h) (a5 : StL (catP E m) h) (a6 : ∀ i, i < m → hI h 21 i = iv ((catP E (i + 1)).length : Nat)) (hm : H 15 = m) (m4 : m ≤ 4) (hl : (catP E m).length ≤ 1000) : Wp (Le_moveIn N 6 h) (fun _ h2 => FrS SMv h h2 ∧ (∀ b, b = 36 ∨ b = 39 ∨ b = 42 → hZ h2 b = hZ h b) ∧ MvL m H C E h2) := by
  unfold Le_moveIn
  refine Wp_ck (by rw [k6 s]) (Wp_bn (p6_1 s) (Wp_ck (by rw [k10 s]) ?_))
  rw [p6_2 s]
  refine Wp_bd2 (hoCopyL hN s a1 a2 a3 a4 a5 a6 hm m4 hl) ?_
  rintro - h1 ⟨f1, hs1, c1, d1⟩
  have F1 : FrS SMv h h1 := f1.s.up (fun b e => by unfold SMv; omega)
  have s1 := F1.shp s
  refine Wp_ck (by rw [k6 s1]) (Wp_bn (p6_6 s1) (Wp_ck (by rw [k32 s1]) ?_))
  rw [p6_1 s1]
  refine Wp_bd2 (beginL s1 (k32 s1) hs1) ?_
  rintro - h2 ⟨f2, n2⟩
  have F2 := F1.tr (f2.up (T := SMv) (fun b e => by unfold SMv; omega))
  have s2 := F2.shp s
  refine Wp_ck (by rw [k6 s2]) (Wp_bn (p6_3 s2) (Wp_ck (by rw [k22 s2]) (Wp_lt ?_)))
  rw [il0]
  have F3 := F2.aI (a := 22) (i := 2) (v := iv 0) (by unfold SMv; omega)
  have s3 := F3.shp s
  unfold Le_forgetPast
  refine Wp_bd2 (P := fun _ h4 => h4 = wI (wI (wI h2 22 2 (iv 0)) 6 9 (iv 0)) 6 10 (iv 0)) (Wp_ck (by rw [k6 s3]) (Wp_lt (Wp_ltr (by rw [il0])))) ?_
  rintro - h4 rfl
  have F4 := (F3.aI (a := 6) (i := 9) (v := iv 0) (by unfold SMv; omega)).aI (a := 6) (i := 10) (v := iv 0) (by unfold SMv; omega)
  have s4 := F4.shp s
  have q0 : hI (wI (wI (wI h2 22 2 (iv 0)) 6 9 (iv 0)) 6 10 (iv 0)) 22 2 = iv 0 := by rw [hI_wI, if_neg (by omega), hI_wI, if_neg (by omega), hI_wI, if_pos ⟨rfl, rfl⟩]
  have q1 : hI (wI (wI (wI h2 22 2 (iv 0)) 6 9 (iv 0)) 6 10 (iv 0)) 6 9 = iv 0 := by rw [hI_wI, if_neg (by omega), hI_wI, if_pos ⟨rfl, rfl⟩]
  have q2 : hI (wI (wI (wI h2 22 2 (iv 0)) 6 9 (iv 0)) 6 10 (iv 0)) 6 10 = iv 0 := by rw [hI_wI, if_pos ⟨rfl, rfl⟩]
  have q3 : FrS (fun b => b = 6 ∨ b = 22) h2 (wI (wI (wI h2 22 2 (iv 0)) 6 9 (iv 0)) 6 10 (iv 0)) := ((FrS.rf.aI (Or.inr rfl)).aI (Or.inl rfl)).aI (Or.inl rfl)
  generalize (wI (wI (wI h2 22 2 (iv 0)) 6 9 (iv 0)) 6 10 (iv 0)) = h4 at F4 s4 q0 q1 q2 q3 ⊢
  have hs4 : HsL 10 H C h4 := ((hs1.fr f2 (by omega) (by omega) (by omega) (by omega))).fr q3 (by omega) (by omega) (by omega) (by omega)
  refine Wp_mono (moveMarksL (v := iv (H 0)) s4 hs4.1 4 0 h4 (by omega) FrS.rf rfl (fun i hi => by omega) N (by omega)) ?_
  rintro - h5 ⟨f5, z5, m5, v1, v2, v3⟩
  refine ⟨F4.tr (f5.up (fun b e => by unfold SMv; omega)), fun b hb => ?_, hs4.fr f5 (by omega) (by omega) (by omega) (by omega), fun k hk => ?_, fun i hi => ?_, ((n2.fr q3 (by omega)).fr f5 (by omega)), ?_, ?_, ?_, m5, v1, v2, v3⟩
  · rw [z5 b hb, (q3.2.2.2 b (by omega)).2.2, (f2.2.2.2 b (by omega)).2.2, f1.2.2.2.1]
  · rw [f5.I (by omega), q3.I (by omega), f2.I (by omega)]
    exact c1 k hk
  · rw [f5.I (by omega), q3.I (by omega), f2.I (by omega)]
    exact d1 i hi
  · rw [f5.I (by omega)]; exact q0
  · rw [f5.I (by omega)]; exact q1
  · rw [f5.I (by omega)]; exact q2
/-- the call 'house', the class's way -/
theorem leHouL {N : Nat} {T : Nat → Int} {L : Nat} {h : PH} (hN : 1100 ≤ N) (x : TxL T L h) (e0 : hI h 17 0 = iv 0) : Wp (Le_house N 6 h) (fun v h2 => FrS (fun b => b = 7 ∨ (16 ≤ b ∧ b ≤ 21) ∨ (28 ≤ b ∧ b ≤ 31) ∨ SMv b) h h2 ∧ hI h2 7 1 = iv 0 ∧ hI h2 17 0 = iv 0 ∧ match hoR T L with
    | .inl f => v = iv f ∧ 0 < f ∧ f < 1048576 ∧ (∀ b, SMv b → hI h2 b = hI h b ∧ hZ h2 b = hZ h b)
    | .inr S => v = iv 0 ∧ SOK T L S ∧ (catP (sE S) (sH S 15).toNat).length ≤ 1000 ∧ (∀ b, b = 36 ∨ b = 39 ∨ b = 42 → hZ h2 b = hZ h b) ∧ MvL (sH S 15).toNat (sH S) (sC S) (sE S) h2) := by
  have s := x.1
  unfold Le_house
  refine Wp_ck (by rw [k6 s]) (Wp_bn (p6_5 s) (Wp_ck (by rw [k28 s]) (Wp_bd2 (readHouseL hN x e0) ?_)))
  rintro v h1 ⟨f1, r1⟩
  have F1 : FrS (fun b => b = 7 ∨ (16 ≤ b ∧ b ≤ 21) ∨ (28 ≤ b ∧ b ≤ 31) ∨ SMv b) h h1 := f1.1.up (fun b e => by omega)
  have s1 := F1.shp s
  refine Wp_ck (by rw [k6 s1]) (Wp_bn (p6_0 s1) (Wp_ck (by rw [k7 s1]) (Wp_lt ?_)))
  rw [il0]
  have F2 := F1.aI (a := 7) (i := 1) (v := iv 0) (Or.inl rfl)
  have s2 := F2.shp s
  have e71 : hI (wI h1 7 1 (iv 0)) 7 1 = iv 0 := by rw [hI_wI, if_pos ⟨rfl, rfl⟩]
  have e17 : hI (wI h1 7 1 (iv 0)) 17 0 = iv 0 := by rw [hI_wI, if_neg (by omega), f1.2.2]; exact e0
  have g2 : FrI (fun b => b = 7) h1 (wI h1 7 1 (iv 0)) := FrI.rf.w rfl
  generalize (wI h1 7 1 (iv 0)) = h2 at F2 s2 e71 e17 g2 ⊢
  cases e : hoR T L with
  | inl f =>
    rw [e] at r1
    obtain ⟨rfl, b1, b2⟩ := r1
    refine Wp_ifn (by rw [iv_eq (by omega) (by omega) (by omega) (by omega)]; omega) (Wp_ret ⟨F2, e71, e17, rfl, b1, b2, fun b hb => ?_⟩)
    have nb : ¬ (b = 7 ∨ (16 ≤ b ∧ b ≤ 21) ∨ (28 ≤ b ∧ b ≤ 31)) := by unfold SMv at hb; omega
    exact ⟨by rw [g2.2.2.2.2.2 b (by omega), (f1.1.2.2.2 b nb).1], by rw [g2.2.2.2.1, (f1.1.2.2.2 b nb).2.2]⟩
  | inr S =>
    rw [e] at r1
    obtain ⟨rfl, t1, ok, w1, l1⟩ := r1
    obtain ⟨⟨a1, b1, c1, d1, y1, g1, i1, j1⟩, k1⟩ := t1
    have h15 : 0 ≤ sH S 15 ∧ sH S 15 ≤ 4 := ok.1.2.2.2.2.2.2.2.2.2.2.2.2.2.2.2.1
    refine Wp_ifp rfl (Wp_bd2 (moveInL (m := (sH S 15).toNat) (H := sH S) (C := sC S) (E := sE S) hN s2 (fun f hf => ?_) (fun n hn => ?_) (fun k hk => ?_) (fun q k hq hk => ?_) ⟨?_, fun k hk => ?_⟩ (fun i hi => ?_) (by omega) (by omega) l1) ?_)
    · rw [g2.I (by omega)]; exact a1 f hf
    · rw [g2.I (by omega)]; exact k1 n hn
    · rw [g2.I (by omega)]; exact b1 k hk
    · rw [g2.I (by omega)]; exact w1 q k hq hk
    · rw [g2.I (by omega)]; exact i1.1
    · rw [g2.I (by omega)]; exact i1.2 k hk
    · rw [g2.I (by omega)]; exact j1 i hi
    · rintro - h3 ⟨f3, z3, m3⟩
      refine Wp_ret ⟨F2.tr (f3.up (fun b e => Or.inr (Or.inr (Or.inr e)))), ?_, ?_, rfl, ok, l1, fun b hb => ?_, m3⟩
      · rw [f3.I (by unfold SMv; omega)]; exact e71
      · rw [f3.I (by unfold SMv; omega)]; exact e17
      · rw [z3 b hb, g2.2.2.2.1, (f1.1.2.2.2 b (by omega)).2.2]
