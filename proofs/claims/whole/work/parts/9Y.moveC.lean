/-! THE PURE PROOFS, 9A2: the start: the class moves in, before the reference is made (printed from part 88). -/
def ShC (h : PH) : Prop := KdA h ∧ PtL h
theorem FrS.shC {S : Nat → Prop} {h h2 : PH} (f : FrS S h h2) (s : ShC h) : ShC h2 := ⟨fun q m => by rw [f.2.1]; exact s.1 q m, fun q m l => by rw [f.2.2.1]; exact s.2 q m l⟩
theorem FrI.shC {S : Nat → Prop} {h h2 : PH} (f : FrI S h h2) (s : ShC h) : ShC h2 := f.s.shC s
theorem kC6 {h : PH} (s : ShC h) : hK h 6 = (10, 0) := s.1 (6, (10, 0)) (by decide +kernel)
theorem kC10 {h : PH} (s : ShC h) : hK h 10 = (0, 0) := s.1 (10, (0, 0)) (by decide +kernel)
theorem kC11 {h : PH} (s : ShC h) : hK h 11 = (20, 4) := s.1 (11, (20, 4)) (by decide +kernel)
theorem kC12 {h : PH} (s : ShC h) : hK h 12 = (20, 96) := s.1 (12, (20, 96)) (by decide +kernel)
theorem kC13 {h : PH} (s : ShC h) : hK h 13 = (20, 96) := s.1 (13, (20, 96)) (by decide +kernel)
theorem kC14 {h : PH} (s : ShC h) : hK h 14 = (20, 1000) := s.1 (14, (20, 1000)) (by decide +kernel)
theorem kC15 {h : PH} (s : ShC h) : hK h 15 = (20, 4) := s.1 (15, (20, 4)) (by decide +kernel)
theorem kC16 {h : PH} (s : ShC h) : hK h 16 = (0, 0) := s.1 (16, (0, 0)) (by decide +kernel)
theorem kC17 {h : PH} (s : ShC h) : hK h 17 = (20, 4) := s.1 (17, (20, 4)) (by decide +kernel)
theorem kC18 {h : PH} (s : ShC h) : hK h 18 = (20, 96) := s.1 (18, (20, 96)) (by decide +kernel)
theorem kC19 {h : PH} (s : ShC h) : hK h 19 = (20, 96) := s.1 (19, (20, 96)) (by decide +kernel)
theorem kC20 {h : PH} (s : ShC h) : hK h 20 = (20, 1000) := s.1 (20, (20, 1000)) (by decide +kernel)
theorem kC21 {h : PH} (s : ShC h) : hK h 21 = (20, 4) := s.1 (21, (20, 4)) (by decide +kernel)
theorem kC22 {h : PH} (s : ShC h) : hK h 22 = (6, 0) := s.1 (22, (6, 0)) (by decide +kernel)
theorem kC32 {h : PH} (s : ShC h) : hK h 32 = (3, 0) := s.1 (32, (3, 0)) (by decide +kernel)
theorem kC35 {h : PH} (s : ShC h) : hK h 35 = (25, 4) := s.1 (35, (25, 4)) (by decide +kernel)
theorem kC36 {h : PH} (s : ShC h) : hK h 36 = (9, 0) := s.1 (36, (9, 0)) (by decide +kernel)
theorem kC39 {h : PH} (s : ShC h) : hK h 39 = (9, 0) := s.1 (39, (9, 0)) (by decide +kernel)
theorem kC42 {h : PH} (s : ShC h) : hK h 42 = (9, 0) := s.1 (42, (9, 0)) (by decide +kernel)
theorem kC72 {h : PH} (s : ShC h) : hK h 72 = (1, 0) := s.1 (72, (1, 0)) (by decide +kernel)
theorem kC73 {h : PH} (s : ShC h) : hK h 73 = (3, 0) := s.1 (73, (3, 0)) (by decide +kernel)
theorem kC77 {h : PH} (s : ShC h) : hK h 77 = (1, 0) := s.1 (77, (1, 0)) (by decide +kernel)
theorem kC78 {h : PH} (s : ShC h) : hK h 78 = (3, 0) := s.1 (78, (3, 0)) (by decide +kernel)
theorem kC82 {h : PH} (s : ShC h) : hK h 82 = (1, 0) := s.1 (82, (1, 0)) (by decide +kernel)
theorem kC83 {h : PH} (s : ShC h) : hK h 83 = (3, 0) := s.1 (83, (3, 0)) (by decide +kernel)
theorem kC87 {h : PH} (s : ShC h) : hK h 87 = (1, 0) := s.1 (87, (1, 0)) (by decide +kernel)
theorem kC88 {h : PH} (s : ShC h) : hK h 88 = (3, 0) := s.1 (88, (3, 0)) (by decide +kernel)
theorem pC10_14 {h : PH} (s : ShC h) : hR h 10 14 = some 11 := s.2 ((10, 14), 11) (by decide +kernel) (by decide)
theorem pC10_15 {h : PH} (s : ShC h) : hR h 10 15 = some 12 := s.2 ((10, 15), 12) (by decide +kernel) (by decide)
theorem pC10_16 {h : PH} (s : ShC h) : hR h 10 16 = some 13 := s.2 ((10, 16), 13) (by decide +kernel) (by decide)
theorem pC10_17 {h : PH} (s : ShC h) : hR h 10 17 = some 14 := s.2 ((10, 17), 14) (by decide +kernel) (by decide)
theorem pC10_18 {h : PH} (s : ShC h) : hR h 10 18 = some 15 := s.2 ((10, 18), 15) (by decide +kernel) (by decide)
theorem pC16_14 {h : PH} (s : ShC h) : hR h 16 14 = some 17 := s.2 ((16, 14), 17) (by decide +kernel) (by decide)
theorem pC16_15 {h : PH} (s : ShC h) : hR h 16 15 = some 18 := s.2 ((16, 15), 18) (by decide +kernel) (by decide)
theorem pC16_16 {h : PH} (s : ShC h) : hR h 16 16 = some 19 := s.2 ((16, 16), 19) (by decide +kernel) (by decide)
theorem pC16_17 {h : PH} (s : ShC h) : hR h 16 17 = some 20 := s.2 ((16, 17), 20) (by decide +kernel) (by decide)
theorem pC16_18 {h : PH} (s : ShC h) : hR h 16 18 = some 21 := s.2 ((16, 18), 21) (by decide +kernel) (by decide)
theorem pC35_0 {h : PH} (s : ShC h) : hR h 35 0 = some 72 := s.2 ((35, 0), 72) (by decide +kernel) (by decide)
theorem pC35_1 {h : PH} (s : ShC h) : hR h 35 1 = some 77 := s.2 ((35, 1), 77) (by decide +kernel) (by decide)
theorem pC35_2 {h : PH} (s : ShC h) : hR h 35 2 = some 82 := s.2 ((35, 2), 82) (by decide +kernel) (by decide)
theorem pC35_3 {h : PH} (s : ShC h) : hR h 35 3 = some 87 := s.2 ((35, 3), 87) (by decide +kernel) (by decide)
theorem pC36_0 {h : PH} (s : ShC h) : hR h 36 0 = some 10 := s.2 ((36, 0), 10) (by decide +kernel) (by decide)
theorem pC39_0 {h : PH} (s : ShC h) : hR h 39 0 = some 10 := s.2 ((39, 0), 10) (by decide +kernel) (by decide)
theorem pC42_0 {h : PH} (s : ShC h) : hR h 42 0 = some 10 := s.2 ((42, 0), 10) (by decide +kernel) (by decide)
theorem pC6_1 {h : PH} (s : ShC h) : hR h 6 1 = some 10 := s.2 ((6, 1), 10) (by decide +kernel) (by decide)
theorem pC6_11 {h : PH} (s : ShC h) : hR h 6 11 = some 35 := s.2 ((6, 11), 35) (by decide +kernel) (by decide)
theorem pC6_12 {h : PH} (s : ShC h) : hR h 6 12 = some 36 := s.2 ((6, 12), 36) (by decide +kernel) (by decide)
theorem pC6_13 {h : PH} (s : ShC h) : hR h 6 13 = some 39 := s.2 ((6, 13), 39) (by decide +kernel) (by decide)
theorem pC6_14 {h : PH} (s : ShC h) : hR h 6 14 = some 42 := s.2 ((6, 14), 42) (by decide +kernel) (by decide)
theorem pC6_2 {h : PH} (s : ShC h) : hR h 6 2 = some 16 := s.2 ((6, 2), 16) (by decide +kernel) (by decide)
theorem pC6_3 {h : PH} (s : ShC h) : hR h 6 3 = some 22 := s.2 ((6, 3), 22) (by decide +kernel) (by decide)
theorem pC6_6 {h : PH} (s : ShC h) : hR h 6 6 = some 32 := s.2 ((6, 6), 32) (by decide +kernel) (by decide)
theorem beginC {N : Nat} {H C : Nat → Int} {h : PH} (s : ShC h) (ka : hK h 32 = (3, 0)) (hs : HsL 10 H C h) : Wp (Ni_begin N 32 (some 10) h) (fun _ h2 => FrS (fun b => b = 32) h h2 ∧ NtL 32 (begM H) h2) := by
  have n10 : (32 : Nat) ≠ 10 := by omega
  obtain ⟨x0, x1, x2, -, -, -, -, -, -, -, x10, -⟩ := hs
  unfold Ni_begin
  refine Wp_ck (by rw [ka]) (Wp_lt (Wp_bn rfl (Wp_ck (by rw [hK_wI, kC10 s]) ?_)))
  refine Wp_lt (Wp_lt (Wp_lt (Wp_lt (Wp_lt (Wp_lt (Wp_lt (Wp_lt (Wp_lt (Wp_lt (Wp_lt (Wp_lt (Wp_lt (Wp_ret ⟨?_, ?_⟩)))))))))))))
  · exact (((((((((((((FrS.rf.i1).i1).i1).i1).i1).i1).i1).i1).z1).z1).z1).z1).z1).z1
  · unfold NtL begM
    simp only [tb_0, tb_1]
    simp only [hI_wI, hI_wZ, hI_wJ, hI_wR, hZ_wI, hZ_wZ, hZ_wJ, hZ_wR, hK_wI, hK_wZ, hK_wJ, hK_wR, hR_wI, hR_wZ, hR_wJ, hR_wR, hJ_wI, hJ_wZ, hJ_wJ, hJ_wR, Nat.reduceEqDiff, and_true, true_and, and_false, false_and, if_true, if_false, eq_self, ite_true, ite_false, n10.symm, x1, x2, x10, tb_0, tb_1, iv_lit, iv_mul]
    try simp
theorem hoCopyC {N m : Nat} {H C : Nat → Int} {E : Nat → Ex} {h : PH} (hN : 1100 ≤ N) (s : ShC h) (a1 : ∀ f, f < 13 → hI h 16 f = iv (cf H f)) (a2 : ∀ n : Nat, n < 4 → hI h 17 n = iv (wsm H n)) (a3 : ∀ k, k < 96 → hI h 18 k = iv (C k)) (a4 : WeL 16 C h) (a5 : StL (catP E m) h) (a6 : ∀ i, i < m → hI h 21 i = iv ((catP E (i + 1)).length : Nat)) (hm : H 15 = m) (m4 : m ≤ 4) (hl : (catP E m).length ≤ 1000) : Wp (Ho_copy N 10 (some 16) h) (fun _ h2 => FrI (fun c => 10 ≤ c ∧ c ≤ 15) h h2 ∧ HsL 10 H C h2 ∧ (∀ k, k < (catP E m).length → hI h2 14 k = iv ((catP E m).getD k 0)) ∧ ∀ i, i < m → hI h2 15 i = iv ((catP E (i + 1)).length : Nat)) := by
  unfold Ho_copy
  refine Wp_bn rfl (Wp_ck (by rw [kC16 s]) (Wp_ck (by rw [kC10 s]) ?_))
  have p0 : FrI (fun c => c = 10) h h ∧ ∀ f, f < 0 → hI h 10 f = hI h 16 f := ⟨FrI.rf, fun f hf => by omega⟩
  have p1 := cpS (k := 0) p0
  refine Wp_lt ?_
  generalize (wI h 10 0 (hI h 16 0)) = h1 at p1 ⊢
  clear p0
  have p2 := cpS (k := 1) p1
  refine Wp_lt ?_
  generalize (wI h1 10 1 (hI h1 16 1)) = h2 at p2 ⊢
  clear p1
  have p3 := cpS (k := 2) p2
  refine Wp_lt ?_
  generalize (wI h2 10 2 (hI h2 16 2)) = h3 at p3 ⊢
  clear p2
  have p4 := cpS (k := 3) p3
  refine Wp_lt ?_
  generalize (wI h3 10 3 (hI h3 16 3)) = h4 at p4 ⊢
  clear p3
  have p5 := cpS (k := 4) p4
  refine Wp_lt ?_
  generalize (wI h4 10 4 (hI h4 16 4)) = h5 at p5 ⊢
  clear p4
  have p6 := cpS (k := 5) p5
  refine Wp_lt ?_
  generalize (wI h5 10 5 (hI h5 16 5)) = h6 at p6 ⊢
  clear p5
  have p7 := cpS (k := 6) p6
  refine Wp_lt ?_
  generalize (wI h6 10 6 (hI h6 16 6)) = h7 at p7 ⊢
  clear p6
  have p8 := cpS (k := 7) p7
  refine Wp_lt ?_
  generalize (wI h7 10 7 (hI h7 16 7)) = h8 at p8 ⊢
  clear p7
  have p9 := cpS (k := 8) p8
  refine Wp_lt ?_
  generalize (wI h8 10 8 (hI h8 16 8)) = h9 at p9 ⊢
  clear p8
  have p10 := cpS (k := 9) p9
  refine Wp_lt ?_
  generalize (wI h9 10 9 (hI h9 16 9)) = h10 at p10 ⊢
  clear p9
  have p11 := cpS (k := 10) p10
  refine Wp_lt ?_
  generalize (wI h10 10 10 (hI h10 16 10)) = h11 at p11 ⊢
  clear p10
  have p12 := cpS (k := 11) p11
  refine Wp_lt ?_
  generalize (wI h11 10 11 (hI h11 16 11)) = h12 at p12 ⊢
  clear p11
  have p13 := cpS (k := 12) p12
  refine Wp_lt ?_
  generalize (wI h12 10 12 (hI h12 16 12)) = h13 at p13 ⊢
  clear p12
  have p14 := cpS (k := 13) p13
  refine Wp_lt ?_
  generalize (wI h13 10 13 (hI h13 16 13)) = h14 at p14 ⊢
  clear p13
  obtain ⟨f1, o1⟩ := p14
  have kk : ∀ {h2 : PH}, FrI (fun c => 10 ≤ c ∧ c ≤ 15) h h2 → ShC h2 := fun f => f.shC s
  have F1 : FrI (fun c => 10 ≤ c ∧ c ≤ 15) h h14 := f1.up (fun c e => by omega)
  have s1 := kk F1
  rw [pC10_14 s1, pC16_14 s1, show (4 : Int32) = iv ((4 : Nat) : Int) from iv_lit _]
  refine Wp_bd2 (copyRowL (n := 4) (by omega) (by omega) (kC11 s1) (kC17 s1) (by omega) (by omega) (by omega) (by omega)) ?_
  rintro - i1 ⟨g1, b1⟩
  have F2 := F1.tr (g1.up (T := fun c => 10 ≤ c ∧ c ≤ 15) (fun c e => by omega))
  have s2 := kk F2
  refine Wp_ck (by rw [kC10 s2]) (Wp_ck (by rw [kC16 s2]) ?_)
  rw [pC10_15 s2, pC16_15 s2, show (96 : Int32) = iv ((96 : Nat) : Int) from iv_lit _]
  refine Wp_bd2 (copyRowL (n := 96) (by omega) (by omega) (kC12 s2) (kC18 s2) (by omega) (by omega) (by omega) (by omega)) ?_
  rintro - i2 ⟨g2, b2⟩
  have F3 := F2.tr (g2.up (T := fun c => 10 ≤ c ∧ c ≤ 15) (fun c e => by omega))
  have s3 := kk F3
  refine Wp_ck (by rw [kC10 s3]) (Wp_ck (by rw [kC16 s3]) ?_)
  rw [pC10_16 s3, pC16_16 s3]
  refine Wp_bd2 (copyRowL (n := 96) (by omega) (by omega) (kC13 s3) (kC19 s3) (by omega) (by omega) (by omega) (by omega)) ?_
  rintro - i3 ⟨g3, b3⟩
  have F4 := F3.tr (g3.up (T := fun c => 10 ≤ c ∧ c ≤ 15) (fun c e => by omega))
  have s4 := kk F4
  refine Wp_ck (by rw [kC10 s4]) (Wp_ck (by rw [kC16 s4]) ?_)
  rw [pC10_17 s4, pC16_17 s4, F4.I (by omega), a5.1]
  refine Wp_bd2 (copyRowL (n := (catP E m).length) (by omega) (by omega) (kC14 s4) (kC20 s4) (by omega) (by omega) (by omega) (by omega)) ?_
  rintro - i4 ⟨g4, b4⟩
  have F5 := F4.tr (g4.up (T := fun c => 10 ≤ c ∧ c ≤ 15) (fun c e => by omega))
  have s5 := kk F5
  refine Wp_ck (by rw [kC10 s5]) (Wp_ck (by rw [kC16 s5]) ?_)
  have e12 : hI h 16 12 = iv (m : Int) := by rw [a1 12 (by omega), ← hm]; rfl
  rw [pC10_18 s5, pC16_18 s5, F5.I (by omega), e12]
  refine Wp_bd2 (copyRowL (n := m) (by omega) (by omega) (kC15 s5) (kC21 s5) (by omega) (by omega) (by omega) (by omega)) ?_
  rintro - i5 ⟨g5, b5⟩
  have F6 := F5.tr (g5.up (T := fun c => 10 ≤ c ∧ c ≤ 15) (fun c e => by omega))
  have fin : ∀ j, hI i5 10 j = hI h14 10 j := fun j => by rw [g5.I (by omega), g4.I (by omega), g3.I (by omega), g2.I (by omega), g1.I (by omega)]
  have w : ∀ f, f < 13 → hI i5 10 f = iv (cf H f) := fun f hf => by rw [fin, o1 f (by omega)]; exact a1 f hf
  refine Wp_ret ⟨F6, ⟨w 0 (by omega), w 1 (by omega), w 2 (by omega), w 3 (by omega), w 4 (by omega), w 5 (by omega), w 6 (by omega), w 7 (by omega), w 8 (by omega), w 9 (by omega), w 10 (by omega), w 11 (by omega), w 12 (by omega), fun n hn => ?_, fun k hk => ?_, fun q k hq hk => ?_⟩, fun k hk => ?_, fun i hi => ?_⟩
  · show hI i5 11 n = _
    rw [g5.I (by omega), g4.I (by omega), g3.I (by omega), g2.I (by omega), b1, if_pos hn, F1.I (by omega)]
    exact a2 n hn
  · show hI i5 12 k = _
    rw [g5.I (by omega), g4.I (by omega), g3.I (by omega), b2, if_pos hk, F2.I (by omega)]
    exact a3 k hk
  · show hI i5 13 (4 * q + k) = _
    rw [g5.I (by omega), g4.I (by omega), b3, if_pos (by omega), F3.I (by omega)]
    exact a4 q k hq hk
  · rw [g5.I (by omega), b4, if_pos hk, F4.I (by omega)]
    exact a5.2 k hk
  · rw [b5, if_pos hi, F5.I (by omega)]
    exact a6 i hi
theorem p35MC {h : PH} (s : ShC h) : ∀ i, i < 4 → hR h 35 i = some (72 + 5 * i) := by
  intro i hi
  have c : i = 0 ∨ i = 1 ∨ i = 2 ∨ i = 3 := by omega
  rcases c with rfl | rfl | rfl | rfl
  · exact pC35_0 s
  · exact pC35_1 s
  · exact pC35_2 s
  · exact pC35_3 s
theorem kMC {h : PH} (s : ShC h) : ∀ i, i < 4 → hK h (72 + 5 * i) = (1, 0) := by
  intro i hi
  have c : i = 0 ∨ i = 1 ∨ i = 2 ∨ i = 3 := by omega
  rcases c with rfl | rfl | rfl | rfl
  · exact kC72 s
  · exact kC77 s
  · exact kC82 s
  · exact kC87 s
theorem vaBeginC {N a : Nat} {v : Int32} {h : PH} (s : ShC h) (ka : hK h a = (9, 0)) (pa : hR h a 0 = some 10) (e : hI h 10 0 = v) : Wp (Va_begin N a h) (fun _ h2 => h2 = wI h a 5 v) := by
  unfold Va_begin
  refine Wp_ck (by rw [ka]) (Wp_bn pa (Wp_ck (by rw [kC10 s]) (Wp_ltr ?_)))
  rw [e]
theorem moveMarksC {N : Nat} {h0 : PH} {v : Int32} (s0 : ShC h0) (e10 : hI h0 10 0 = v) : ∀ (m k : Nat) (h : PH), k + m = 4 → FrS (fun b => b = 72 ∨ b = 77 ∨ b = 82 ∨ b = 87) h0 h → hI h = hI h0 → (∀ i, i < k → hZ h (72 + 5 * i) 2 = false) → ∀ fuel, m < fuel → Wp (Le_moveIn_b36 N fuel 6 (iv k) h) (fun _ h2 => FrS (fun b => b = 36 ∨ b = 39 ∨ b = 42 ∨ b = 72 ∨ b = 77 ∨ b = 82 ∨ b = 87) h0 h2 ∧ (∀ b, b = 36 ∨ b = 39 ∨ b = 42 → hZ h2 b = hZ h0 b) ∧ (∀ i, i < 4 → hZ h2 (72 + 5 * i) 2 = false) ∧ hI h2 36 5 = v ∧ hI h2 39 5 = v ∧ hI h2 42 5 = v)
  | m, k, h, hk, f, eI, a, fuel, hf => by
    obtain ⟨fu, rfl⟩ : ∃ g, fuel = g + 1 := ⟨fuel - 1, by omega⟩
    have s := f.shC s0
    rw [Le_moveIn_b36]
    refine Wp_ck (by rw [kC6 s]) (Wp_bn (pC6_11 s) (Wp_ck (by rw [kC35 s]) ?_))
    rw [kC35 s, ofN]
    refine Wp_if (fun c => ?_) (fun c => ?_)
    · rw [iv_le (by omega) (by omega) (by omega) (by omega)] at c
      have g0 := f.up (T := fun b => b = 36 ∨ b = 39 ∨ b = 42 ∨ b = 72 ∨ b = 77 ∨ b = 82 ∨ b = 87) (fun b e => by omega)
      have e0 : hI h 10 0 = v := by rw [eI]; exact e10
      refine Wp_bn (pC6_12 s) (Wp_ck (by rw [kC36 s]) (Wp_bd2 (vaBeginC s (kC36 s) (pC36_0 s) e0) ?_))
      rintro - h1 rfl
      have g1 := g0.aI (a := 36) (i := 5) (v := v) (Or.inl rfl)
      have s1 := g1.shC s0
      refine Wp_ck (by rw [kC6 s1]) (Wp_bn (pC6_13 s1) (Wp_ck (by rw [kC39 s1]) (Wp_bd2 (vaBeginC (v := v) s1 (kC39 s1) (pC39_0 s1) (by rw [hI_wI, if_neg (by omega)]; exact e0)) ?_)))
      rintro - h2 rfl
      have g2 := g1.aI (a := 39) (i := 5) (v := v) (Or.inr (Or.inl rfl))
      have s2 := g2.shC s0
      refine Wp_ck (by rw [kC6 s2]) (Wp_bn (pC6_14 s2) (Wp_ck (by rw [kC42 s2]) (Wp_bd2 (vaBeginC (v := v) s2 (kC42 s2) (pC42_0 s2) (by rw [hI_wI, if_neg (by omega), hI_wI, if_neg (by omega)]; exact e0)) ?_)))
      rintro - h3 rfl
      have g3 := g2.aI (a := 42) (i := 5) (v := v) (Or.inr (Or.inr (Or.inl rfl)))
      refine Wp_ret ⟨g3, fun b hb => ?_, fun i hi => ?_, ?_, ?_, ?_⟩
      · show hZ h b = hZ h0 b
        exact (f.2.2.2 b (by omega)).2.2
      · exact a i (by omega)
      · rw [hI_wI, if_neg (by omega), hI_wI, if_neg (by omega), hI_wI, if_pos ⟨rfl, rfl⟩]
      · rw [hI_wI, if_neg (by omega), hI_wI, if_pos ⟨rfl, rfl⟩]
      · rw [hI_wI, if_pos ⟨rfl, rfl⟩]
    · rw [iv_le (by omega) (by omega) (by omega) (by omega)] at c
      have pk := p35MC s k (by omega)
      refine Wp_ck (inb_iv (by omega) (by omega) (by omega)) ?_
      rw [ix_nat (by omega), pk]
      refine Wp_ifn (by simp) (Wp_ck (inb_iv (by omega) (by omega) (by omega)) (Wp_bn rfl (Wp_ck (by rw [kMC s k (by omega)]) (Wp_lt ?_))))
      unfold Le_moveIn_b64
      rw [tb_0, il1, iv_add]
      obtain ⟨m2, rfl⟩ : ∃ g, m = g + 1 := ⟨m - 1, by omega⟩
      refine moveMarksC s0 e10 m2 (k + 1) _ (by omega) (f.aZ (by omega)) eI (fun i hi => ?_) fu (by omega)
      rw [hZ_wZ]
      by_cases d : i = k
      · rw [if_pos ⟨by omega, rfl⟩]
      · rw [if_neg (by omega)]
        exact a i (by omega)
theorem moveInC {N m : Nat} {H C : Nat → Int} {E : Nat → Ex} {h : PH} (hN : 1100 ≤ N) (s : ShC h) (a1 : ∀ f, f < 13 → hI h 16 f = iv (cf H f)) (a2 : ∀ n : Nat, n < 4 → hI h 17 n = iv (wsm H n)) (a3 : ∀ k, k < 96 → hI h 18 k = iv (C k)) (a4 : WeL 16 C h) (a5 : StL (catP E m) h) (a6 : ∀ i, i < m → hI h 21 i = iv ((catP E (i + 1)).length : Nat)) (hm : H 15 = m) (m4 : m ≤ 4) (hl : (catP E m).length ≤ 1000) : Wp (Le_moveIn N 6 h) (fun _ h2 => FrS SMv h h2 ∧ (∀ b, b = 36 ∨ b = 39 ∨ b = 42 → hZ h2 b = hZ h b) ∧ MvL m H C E h2) := by
  unfold Le_moveIn
  refine Wp_ck (by rw [kC6 s]) (Wp_bn (pC6_1 s) (Wp_ck (by rw [kC10 s]) ?_))
  rw [pC6_2 s]
  refine Wp_bd2 (hoCopyC hN s a1 a2 a3 a4 a5 a6 hm m4 hl) ?_
  rintro - h1 ⟨f1, hs1, c1, d1⟩
  have F1 : FrS SMv h h1 := f1.s.up (fun b e => by unfold SMv; omega)
  have s1 := F1.shC s
  refine Wp_ck (by rw [kC6 s1]) (Wp_bn (pC6_6 s1) (Wp_ck (by rw [kC32 s1]) ?_))
  rw [pC6_1 s1]
  refine Wp_bd2 (beginC s1 (kC32 s1) hs1) ?_
  rintro - h2 ⟨f2, n2⟩
  have F2 := F1.tr (f2.up (T := SMv) (fun b e => by unfold SMv; omega))
  have s2 := F2.shC s
  refine Wp_ck (by rw [kC6 s2]) (Wp_bn (pC6_3 s2) (Wp_ck (by rw [kC22 s2]) (Wp_lt ?_)))
  rw [il0]
  have F3 := F2.aI (a := 22) (i := 2) (v := iv 0) (by unfold SMv; omega)
  have s3 := F3.shC s
  unfold Le_forgetPast
  refine Wp_bd2 (P := fun _ h4 => h4 = wI (wI (wI h2 22 2 (iv 0)) 6 9 (iv 0)) 6 10 (iv 0)) (Wp_ck (by rw [kC6 s3]) (Wp_lt (Wp_ltr (by rw [il0])))) ?_
  rintro - h4 rfl
  have F4 := (F3.aI (a := 6) (i := 9) (v := iv 0) (by unfold SMv; omega)).aI (a := 6) (i := 10) (v := iv 0) (by unfold SMv; omega)
  have s4 := F4.shC s
  have q0 : hI (wI (wI (wI h2 22 2 (iv 0)) 6 9 (iv 0)) 6 10 (iv 0)) 22 2 = iv 0 := by rw [hI_wI, if_neg (by omega), hI_wI, if_neg (by omega), hI_wI, if_pos ⟨rfl, rfl⟩]
  have q1 : hI (wI (wI (wI h2 22 2 (iv 0)) 6 9 (iv 0)) 6 10 (iv 0)) 6 9 = iv 0 := by rw [hI_wI, if_neg (by omega), hI_wI, if_pos ⟨rfl, rfl⟩]
  have q2 : hI (wI (wI (wI h2 22 2 (iv 0)) 6 9 (iv 0)) 6 10 (iv 0)) 6 10 = iv 0 := by rw [hI_wI, if_pos ⟨rfl, rfl⟩]
  have q3 : FrS (fun b => b = 6 ∨ b = 22) h2 (wI (wI (wI h2 22 2 (iv 0)) 6 9 (iv 0)) 6 10 (iv 0)) := ((FrS.rf.aI (Or.inr rfl)).aI (Or.inl rfl)).aI (Or.inl rfl)
  generalize (wI (wI (wI h2 22 2 (iv 0)) 6 9 (iv 0)) 6 10 (iv 0)) = h4 at F4 s4 q0 q1 q2 q3 ⊢
  have hs4 : HsL 10 H C h4 := ((hs1.fr f2 (by omega) (by omega) (by omega) (by omega))).fr q3 (by omega) (by omega) (by omega) (by omega)
  refine Wp_mono (moveMarksC (v := iv (H 0)) s4 hs4.1 4 0 h4 (by omega) FrS.rf rfl (fun i hi => by omega) N (by omega)) ?_
  rintro - h5 ⟨f5, z5, m5, v1, v2, v3⟩
  refine ⟨F4.tr (f5.up (fun b e => by unfold SMv; omega)), fun b hb => ?_, hs4.fr f5 (by omega) (by omega) (by omega) (by omega), fun k hk => ?_, fun i hi => ?_, ((n2.fr q3 (by omega)).fr f5 (by omega)), ?_, ?_, ?_, m5, v1, v2, v3⟩
  · rw [z5 b hb, (q3.2.2.2 b (by omega)).2.2, (f2.2.2.2 b (by omega)).2.2, f1.2.2.2.1]
  · rw [f5.I (by omega), q3.I (by omega), f2.I (by omega)]
    exact c1 k hk
  · rw [f5.I (by omega), q3.I (by omega), f2.I (by omega)]
    exact d1 i hi
  · rw [f5.I (by omega)]; exact q0
  · rw [f5.I (by omega)]; exact q1
  · rw [f5.I (by omega)]; exact q2
