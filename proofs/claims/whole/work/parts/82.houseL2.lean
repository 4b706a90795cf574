/-! THE PURE PROOFS, 60: the class reads a house: its lines of calls. -/
theorem isNumX2 {N : Nat} {h : PH} {lo hi : Int32} (x : Shp h) : ∃ b, Ta_isNumber N 7 lo hi h = some (b, h) ∧ (b = true → ¬ hI h 7 5 < lo ∧ ¬ hi < hI h 7 5) := by
  unfold Ta_isNumber
  rw [ck_p (by rw [k7 x])]
  by_cases c : hI h 7 2 = 1
  · rw [if_pos c]
    by_cases c2 : hI h 7 5 < lo
    · exact ⟨false, by rw [if_pos c2], fun z => (by cases z)⟩
    · rw [if_neg c2]
      by_cases c3 : hi < hI h 7 5
      · exact ⟨false, by rw [if_pos c3], fun z => (by cases z)⟩
      · exact ⟨true, by rw [if_neg c3], fun _ => ⟨c2, c3⟩⟩
  · exact ⟨false, by rw [if_neg c], fun z => (by cases z)⟩
theorem ofN (n : Nat) : Int32.ofNat n = iv n := iv_nat n
theorem isCalledL {N : Nat} {K : Nat → Int} {h : PH} {b : Int} (s : Shp h) (hK2 : ∀ q, q < 24 → hZ h 31 q = decide (K q = 1)) (hb : 0 ≤ b ∧ b ≤ 23) : ∀ (m : Nat) (j : Int), j + m = b + 1 ∨ (b < j ∧ j ≤ 24) → 0 ≤ j → ∀ fuel, m < fuel → Re_isCalled_b2 N fuel 28 (iv b) (iv j) h = some (anK K j (b + 1).toNat, h)
  | m, j, hj, j0, fuel, hf => by
    obtain ⟨fu, rfl⟩ : ∃ g, fuel = g + 1 := ⟨fuel - 1, by omega⟩
    have j24 : j ≤ 24 := by omega
    rw [Re_isCalled_b2]
    simp only [show (iv b < iv j) ↔ b < j from iv_lt (by omega) (by omega) (by omega) (by omega)]
    by_cases c : b < j
    · rw [if_pos c, show anK K j (b + 1).toNat = false from by
        rw [Bool.eq_false_iff]
        intro z
        obtain ⟨i, h1, h2, -⟩ := (anK_iff _).mp z
        omega]
    · rw [if_neg c, il0]
      simp only [show (iv j < iv 0) ↔ j < 0 from iv_lt (by omega) (by omega) (by omega) (by omega)]
      rw [if_neg (by omega), ck_p (by rw [k28 s]), p28_5 s, bn_s, ck_p (by rw [k31 s]), k31 s, ofN]
      simp only [show (iv ((24 : Nat) : Int) ≤ iv j) ↔ ((24 : Nat) : Int) ≤ j from iv_le (by omega) (by omega) (by omega) (by omega)]
      rw [if_neg (by omega), ck_p (inb_iv (by omega) (by omega) (by omega)), ix_iv (by omega) (by omega), hK2 _ (by omega)]
      by_cases d : K j.toNat = 1
      · rw [decide_eq_true d, if_neg (by decide), show anK K j (b + 1).toNat = true from (anK_iff _).mpr ⟨j.toNat, by omega, by omega, d⟩]
      · rw [decide_eq_false d, if_pos (by decide)]
        unfold Re_isCalled_b31
        obtain ⟨m2, rfl⟩ : ∃ g, m = g + 1 := ⟨m - 1, by omega⟩
        rw [il1, iv_add, isCalledL s hK2 hb m2 (j + 1) (by omega) (by omega) fu (by omega)]
        congr 2
        rw [Bool.eq_iff_iff, anK_iff, anK_iff]
        constructor
        · rintro ⟨i, h1, h2, h3⟩
          exact ⟨i, h1, by omega, h3⟩
        · rintro ⟨i, h1, h2, h3⟩
          by_cases e : (i : Int) = j
          · exact absurd h3 (by rw [show i = j.toNat from by omega]; exact d)
          · exact ⟨i, h1, by omega, h3⟩
theorem markCalledL {N : Nat} {K : Nat → Int} {h0 : PH} {a b : Int} (ha : 0 ≤ a ∧ a ≤ 23) (hb : 0 ≤ b ∧ b ≤ 23) (s0 : Shp h0) (hK2 : ∀ q, q < 24 → hZ h0 31 q = decide (K q = 1)) : ∀ (m : Nat) (j : Int) (h : PH), j + m = b + 1 ∨ (j = a ∧ b < a) → a ≤ j → FrHl h0 h → hI h = hI h0 → hJ h = hJ h0 → (∀ c, c ≠ 31 → hZ h c = hZ h0 c) → (∀ q, q < 24 → hZ h 31 q = decide (setK K a (j - 1) q = 1)) → ∀ fuel, m < fuel → Wp (Re_markCalled_b2 N fuel 28 (iv b) (iv j) h) (fun _ h2 => FrHl h0 h2 ∧ hI h2 = hI h0 ∧ hJ h2 = hJ h0 ∧ (∀ c, c ≠ 31 → hZ h2 c = hZ h0 c) ∧ (∀ q, q < 24 → hZ h2 31 q = decide (setK K a b q = 1)))
  | m, j, h, hj, aj, f, e1, e2, e3, e4, fuel, hf => by
    obtain ⟨fu, rfl⟩ : ∃ g, fuel = g + 1 := ⟨fuel - 1, by omega⟩
    have s := f.1.shp s0
    rw [Re_markCalled_b2]
    refine Wp_if (fun c => ?_) (fun c => ?_)
    · rw [iv_lt (by omega) (by omega) (by omega) (by omega)] at c
      refine Wp_ret ⟨f, e1, e2, e3, fun q hq => ?_⟩
      rw [e4 q hq]
      unfold setK
      congr 1
      by_cases d : a ≤ (q : Int) ∧ (q : Int) ≤ b
      · rw [if_pos d, if_pos (by omega)]
      · rw [if_neg d, if_neg (by omega)]
    · rw [iv_lt (by omega) (by omega) (by omega) (by omega)] at c
      rw [il0]
      refine Wp_ifn (by rw [iv_lt (by omega) (by omega) (by omega) (by omega)]; omega) (Wp_ck (by rw [k28 s]) (Wp_bn (p28_5 s) (Wp_ck (by rw [k31 s]) ?_)))
      rw [k31 s, ofN]
      refine Wp_ifn (by rw [iv_le (by omega) (by omega) (by omega) (by omega)]; omega) (Wp_ck (inb_iv (by omega) (by omega) (by omega)) (Wp_lt ?_))
      rw [ix_iv (by omega) (by omega), tb_1]
      unfold Re_markCalled_b27
      rw [il1, iv_add]
      obtain ⟨m2, rfl⟩ : ∃ g, m = g + 1 := ⟨m - 1, by omega⟩
      refine markCalledL ha hb s0 hK2 m2 (j + 1) _ (by omega) (by omega) (f.z (Or.inr rfl)) (by rw [← e1]; rfl) (by rw [← e2]; rfl) (fun q hq => ?_) (fun q hq => ?_) fu (by omega)
      · rw [← e3 q hq]
        exact u2_ne hq
      · rw [hZ_wZ]
        unfold setK
        by_cases d : (q : Int) = j
        · rw [if_pos ⟨rfl, by omega⟩, if_pos (by omega), decide_eq_true rfl]
        · rw [if_neg (by omega), e4 q hq]
          unfold setK
          congr 1
          by_cases z : a ≤ (q : Int) ∧ (q : Int) ≤ j - 1
          · rw [if_pos z, if_pos (by omega)]
          · rw [if_neg z, if_neg (by omega)]
/-- so many of ten, from quarter a to b -/
theorem setCL {N : Nat} {C : Nat → Int} {h0 : PH} {a b v : Int} {k : Nat} {x3 : Int32} {self : Nat → Int32 → Int32 → Int32 → Int32 → PH → Option (Unit × PH)} {Q : Unit → PH → Prop} (hk : k < 4) (ha : 0 ≤ a ∧ a ≤ 23) (hb : 0 ≤ b ∧ b ≤ 23) (s0 : Shp h0)
    (next : ∀ h2, FrI (fun c => c = 18) h0 h2 → (∀ i, i < 96 → hI h2 18 i = iv (setC C a b k v i)) → Wp (self 28 (iv a) (iv b) x3 (iv (k : Nat) + 1) h2) Q) : ∀ (m : Nat) (j : Int) (h : PH), j + m = b + 1 ∨ (j = a ∧ b < a) → a ≤ j → FrI (fun c => c = 18) h0 h → (∀ i, i < 96 → hI h 18 i = iv (setC C a (j - 1) k v i)) → ∀ fuel, m < fuel → Wp (Re_callsLine_b183 N self fuel 28 (iv a) (iv b) x3 (iv (k : Nat)) (iv v) (iv j) h) Q
  | m, j, h, hj, aj, f, e, fuel, hf => by
    obtain ⟨fu, rfl⟩ : ∃ g, fuel = g + 1 := ⟨fuel - 1, by omega⟩
    have s := f.shp s0
    rw [Re_callsLine_b183]
    refine Wp_if (fun c => ?_) (fun c => ?_)
    · rw [iv_lt (by omega) (by omega) (by omega) (by omega)] at c
      refine next h f (fun i hi => ?_)
      rw [e i hi]
      unfold setC
      congr 1
      by_cases d : a ≤ ((i / 4 : Nat) : Int) ∧ ((i / 4 : Nat) : Int) ≤ b ∧ i % 4 = k
      · rw [if_pos d, if_pos (by omega)]
      · rw [if_neg d, if_neg (by omega)]
    · rw [iv_lt (by omega) (by omega) (by omega) (by omega)] at c
      rw [il4, il1, iv_mul, iv_add, iv_add]
      refine Wp_ck (by rw [k28 s]) (Wp_bn (p28_1 s) (Wp_ck (by rw [k16 s]) ?_))
      rw [p16_15 s]
      refine Wp_bde (put_in (k18 s) (by omega) (by omega) (by omega)) ?_
      obtain ⟨m2, rfl⟩ : ∃ g, m = g + 1 := ⟨m - 1, by omega⟩
      refine setCL hk ha hb s0 next m2 (j + 1) _ (by omega) (by omega) (f.w rfl) (fun i hi => ?_) fu (by omega)
      rw [hI_wI]
      unfold setC
      by_cases d : i = (j * 4 + k).toNat
      · rw [if_pos ⟨rfl, d⟩, if_pos (by omega)]
      · rw [if_neg (fun z => d z.2), e i hi]
        unfold setC
        congr 1
        by_cases z : a ≤ ((i / 4 : Nat) : Int) ∧ ((i / 4 : Nat) : Int) ≤ j - 1 ∧ i % 4 = k
        · rw [if_pos z, if_pos (by omega)]
        · rw [if_neg z, if_neg (by omega)]
theorem StaL.c {T : Nat → Int} {L : Nat} {H C D K G : Nat → Int} {P : Nat → Nat} {E : Nat → Ex} {h h2 : PH} (x : StaL T L (mkS H C K G P E) h) (f : FrI (fun c => c = 18) h h2) (e : ∀ i, i < 96 → hI h2 18 i = iv (D i)) : StaL T L (mkS H D K G P E) h2 := by
  obtain ⟨⟨a, b, c, d, z, g, i, j⟩, k⟩ := x
  exact ⟨⟨fun k hk => (f.I (by omega) k).trans (a k hk), e, (f.I (by omega) 6).trans c, fun k hk => (f.s.Z (by omega) k).trans (d k hk), fun k hk => (f.s.Z (by omega) k).trans (z k hk), fun k hk => (f.s.J (by omega) k).trans (g k hk), ⟨(f.I (by omega) _).trans i.1, fun k hk => (f.I (by omega) k).trans (i.2 k hk)⟩, fun k hk => (f.I (by omega) k).trans (j k hk)⟩, fun n hn => (f.I (by omega) n).trans (k n hn)⟩
theorem FrI.hl18 {h h2 : PH} (f : FrI (fun c => c = 18) h h2) : FrHl h h2 := ⟨f.s.up (fun b e => by omega), f.I (by omega) 1, f.I (by omega) 0⟩
theorem RdS.i18 {T : Nat → Int} {L : Nat} {r : Int ⊕ Nat} {h h2 : PH} (s : RdS T L r h) (f : FrI (fun c => c = 18) h h2) : RdS T L r h2 := s.cg (f.2.2.2.2.2 7 (by omega)) (by rw [f.2.2.2.2.1])
/-- one of the four chances -/
theorem cstepL {N : Nat} {T : Nat → Int} {L : Nat} {H C K G : Nat → Int} {P : Nat → Nat} {E : Nat → Ex} {r : Int ⊕ Nat} {h : PH} {a b x3 : Int} {k : Nat} {self : Nat → Int32 → Int32 → Int32 → Int32 → PH → Option (Unit × PH)} {Q : Unit → PH → Prop} (hN : 1100 ≤ N) (x : TxL T L h) (s : RdS T L r h) (st : StaL T L (mkS H C K G P E) h) (hk : k < 4) (ha : 0 ≤ a ∧ a ≤ 23) (hb : 0 ≤ b ∧ b ≤ 23)
    (next : ∀ h2, FrHl h h2 → TxL T L h2 → RdS T L (numP T L 0 10 r) h2 → StaL T L (mkS H (setC C a b k (numZ T L 0 10 r)) K G P E) h2 → Wp (self 28 (iv a) (iv b) (iv (x3 + numZ T L 0 10 r)) (iv ((k + 1 : Nat) : Int)) h2) Q) : Wp (Re_callsLine_b166 N self 28 (iv a) (iv b) (iv x3) (iv (k : Nat)) h) Q := by
  unfold Re_callsLine_b166
  rw [il0, show (10 : Int32) = iv 10 from iv_lit _]
  refine Wp_ck (by rw [k28 x.1]) (Wp_bd2 (numberR hN x s (by omega) (by omega)) ?_)
  rintro v h1 ⟨rfl, f1, s1⟩
  have x1 := f1.tx x
  have st1 := st.f7 f1
  rw [iv_add]
  refine setCL (C := C) hk ha hb x1.1 (fun h2 f2 e2 => ?_) (b + 1 - a).toNat a h1 (by omega) (by omega) FrI.rf (fun i hi => ?_) N (by omega)
  · rw [il1, iv_add]
    have n := next h2 (f1.hl.tr f2.hl18) (f2.hl18.tx x1) (s1.i18 f2) (st1.c f2 e2)
    rw [show ((k + 1 : Nat) : Int) = (k : Int) + 1 from by omega] at n
    exact n
  · rw [st1.1.2.1 i hi]
    unfold setC
    congr 1
    rw [if_neg (by omega)]
    rfl
theorem setC_ext {C D : Nat → Int} {a b v : Int} {k : Nat} (e : ∀ i, C i = D i) : setC C a b k v = setC D a b k v := by
  funext i
  unfold setC
  rw [e i]
/-- the fourth one -/
theorem fourthR {N : Nat} {T : Nat → Int} {L : Nat} {r : Int ⊕ Nat} {h : PH} {g : PH → Option (Unit × PH)} {Q : Unit → PH → Prop} {sm : Int} (x : TxL T L h) (s : RdS T L r h) (hs : 0 ≤ sm ∧ sm ≤ 30)
    (next : ∀ h2 r2, Fr7 h h2 → RdS T L r2 h2 → numP T L 0 10 r2 = numP T L (10 - sm) (10 - sm) r → numZ T L 0 10 r2 = numZ T L (10 - sm) (10 - sm) r → Wp (g h2) Q) : Wp (bd (Ta_isNumber N 7 0 10 h) fun v15 h16 =>
        if (bI v15) = 0 then g h16
        else
          ck ((hK h16 28).1 = 4) <|
          ((hR h16 28 0)).bind fun a_20 =>
          ck ((hK h16 a_20).1 = 8) <|
          if (iv sm + (hI h16 a_20 5)) = 10 then g h16
          else
            bd (Ta_blame N a_20 4 h16) fun v24 h25 => g h25) Q := by
  cases r with
  | inl f =>
    obtain ⟨b, e, -⟩ := isNumX2 (N := N) (lo := 0) (hi := 10) x.1
    refine Wp_bde e ?_
    have same : Wp (g h) Q := next h (.inl f) Fr7.rf s rfl rfl
    refine Wp_if (fun _ => same) (fun _ => Wp_ck (by rw [k28 x.1]) (Wp_bn (p28_0 x.1) (Wp_ck (by rw [k7 x.1]) (Wp_if (fun _ => same) (fun _ => ?_)))))
    rw [il4]
    refine Wp_bd2 (blameR x s (by omega)) ?_
    rintro - h2 ⟨f2, s2⟩
    exact next h2 (.inl f) f2 s2 rfl rfl
  | inr p =>
    have kd := kd_b (p := p) x.2.2.2.1
    have i0 : (0 : Int32) = iv 0 := il0
    have i10 : (10 : Int32) = iv 10 := iv_lit _
    have e := isNumL (N := N) (lo := 0) (hi := 10) x s.1 (by omega) (by omega)
    rw [← i0, ← i10] at e
    refine Wp_bde e ?_
    simp only [bI_0]
    by_cases c : tKd T L p = 1 ∧ 0 ≤ tNm T L p ∧ tNm T L p ≤ 10
    · rw [decide_eq_true c]
      refine Wp_ifn (by decide) (Wp_ck (by rw [k28 x.1]) (Wp_bn (p28_0 x.1) (Wp_ck (by rw [k7 x.1]) ?_)))
      rw [s.1.2.2.2.1 c.1, iv_add, i10]
      refine Wp_if (fun d => ?_) (fun d => ?_)
      · rw [iv_eq (by omega) (by omega) (by omega) (by omega)] at d
        refine next h (.inr p) Fr7.rf s ?_ ?_
        · show (if tKd T L p = 1 then (if 0 ≤ tNm T L p ∧ tNm T L p ≤ 10 then _ else _) else _) = (if tKd T L p = 1 then (if 10 - sm ≤ tNm T L p ∧ tNm T L p ≤ 10 - sm then _ else _) else _)
          rw [if_pos c.1, if_pos c.1, if_pos c.2, if_pos (by omega)]
        · show (if tKd T L p = 1 ∧ 0 ≤ tNm T L p ∧ tNm T L p ≤ 10 then _ else _) = (if tKd T L p = 1 ∧ 10 - sm ≤ tNm T L p ∧ tNm T L p ≤ 10 - sm then _ else _)
          rw [if_pos c, if_pos (by omega)]
      · rw [iv_eq (by omega) (by omega) (by omega) (by omega)] at d
        rw [il4]
        refine Wp_bd2 (blameR x s (by omega)) ?_
        rintro - h2 ⟨f2, s2⟩
        refine next h2 (.inl (4 + 16 * (tB T L p : Nat))) f2 s2 ?_ ?_
        · show (Sum.inl (4 + 16 * (tB T L p : Nat)) : Int ⊕ Nat) = (if tKd T L p = 1 then (if 10 - sm ≤ tNm T L p ∧ tNm T L p ≤ 10 - sm then (Sum.inr (tE T L p) : Int ⊕ Nat) else .inl (4 + 16 * (tB T L p : Nat))) else .inl (1 + 16 * (tB T L p : Nat)))
          rw [if_pos c.1, if_neg (by omega)]
        · show (0 : Int) = (if tKd T L p = 1 ∧ 10 - sm ≤ tNm T L p ∧ tNm T L p ≤ 10 - sm then tNm T L p else 0)
          rw [if_neg (by omega)]
    · rw [decide_eq_false c]
      refine Wp_ifp rfl (next h (.inr p) Fr7.rf s ?_ ?_)
      · show (if tKd T L p = 1 then (if 0 ≤ tNm T L p ∧ tNm T L p ≤ 10 then (Sum.inr (tE T L p) : Int ⊕ Nat) else .inl (4 + 16 * (tB T L p : Nat))) else .inl (1 + 16 * (tB T L p : Nat))) = (if tKd T L p = 1 then (if 10 - sm ≤ tNm T L p ∧ tNm T L p ≤ 10 - sm then (Sum.inr (tE T L p) : Int ⊕ Nat) else .inl (4 + 16 * (tB T L p : Nat))) else .inl (1 + 16 * (tB T L p : Nat)))
        by_cases d : tKd T L p = 1
        · have b := tNm_b d
          rw [if_pos d, if_pos d, if_neg (by omega), if_neg (by omega)]
        · rw [if_neg d, if_neg d]
      · show (if tKd T L p = 1 ∧ 0 ≤ tNm T L p ∧ tNm T L p ≤ 10 then tNm T L p else 0) = (if tKd T L p = 1 ∧ 10 - sm ≤ tNm T L p ∧ tNm T L p ≤ 10 - sm then tNm T L p else 0)
        rw [if_neg c]
        by_cases d : tKd T L p = 1
        · have b := tNm_b d
          rw [if_neg (by omega)]
        · rw [if_neg (fun z => d z.1)]
