/-! THE PURE PROOFS, 62: the class reads a house: its lines of habits. -/
/-- behind a fault -/
def FlX (f : Int) (h h2 : PH) : Prop := FrHl h h2 ∧ RdS (fun _ => 0) 0 (.inl f) h2
theorem putX {N : Nat} {h : PH} {a n : Nat} {i v : Int32} (hk : hK h a = (20, n)) (hn : n < 2147483648) : Wp (Le_put N (some a) i v h) (fun _ h2 => h2 = h ∨ ∃ j, h2 = wI h a j v) := by
  unfold Le_put
  refine Wp_if (fun _ => Wp_ret (Or.inl rfl)) (fun c => ?_)
  refine Wp_bn rfl (Wp_ck (by rw [hk]) (Wp_if (fun _ => Wp_ret (Or.inl rfl)) (fun d => ?_)))
  refine Wp_ck ?_ (Wp_ltr (Or.inr ⟨_, rfl⟩))
  have e : i = iv i.toInt := (iv_of i).symm
  have l1 := Int32.toInt_lt i
  have l2 := Int32.le_toInt i
  generalize i.toInt = z at e l1 l2
  rw [hk, ofN] at d
  rw [e, il0, iv_lt (by omega) (by omega) (by omega) (by omega)] at c
  rw [e, iv_le (by omega) (by omega) (by omega) (by omega)] at d
  rw [hk, e]
  exact inb_iv (by omega) (by omega) (by omega)
theorem endHabitX {N : Nat} {h : PH} (s : Shp h) : Wp (Ho_endHabit N 16 h) (fun _ h2 => FrHl h h2 ∧ hI h2 7 = hI h 7 ∧ hJ h2 7 = hJ h 7) := by
  unfold Ho_endHabit
  refine Wp_ck (by rw [k16 s]) ?_
  rw [p16_18 s]
  refine Wp_bd2 (putX (k21 s) (by omega)) ?_
  have two : ∀ h1, FrHl h h1 → hI h1 7 = hI h 7 → hJ h1 7 = hJ h 7 → Wp (ck ((hK h1 16).1 = 0) <| lt0 (wI h1 16 12 ((hI h1 16 12) + 1)) fun h6 => some ((), h6)) (fun _ h2 => FrHl h h2 ∧ hI h2 7 = hI h 7 ∧ hJ h2 7 = hJ h 7) := by
    intro h1 f1 e1 e2
    refine Wp_ck (by rw [k16 (f1.1.shp s)]) (Wp_ltr ⟨f1.w (by omega), ?_, ?_⟩)
    · rw [← e1]; funext j; rw [hI_wI, if_neg (by omega)]
    · rw [← e2, hJ_wI]
  rintro - h1 (rfl | ⟨j, rfl⟩)
  · exact two h1 FrHl.rf rfl rfl
  · exact two _ (FrHl.rf.w (by omega)) (by funext j; rw [hI_wI, if_neg (by omega)]) (by rw [hJ_wI])
theorem habX {N : Nat} {T : Nat → Int} {L : Nat} {f n : Int} {h : PH} (hN : 1100 ≤ N) (x : TxL T L h) (s : RdS T L (.inl f) h) (hn : 0 ≤ n ∧ n < 4) : Wp (Re_habitLine_b109 N 28 (iv n) h) (fun _ h2 => FrHl h h2 ∧ RdS T L (.inl f) h2) := by
  unfold Re_habitLine_b109
  refine Wp_ck (by rw [k28 x.1]) (Wp_bn (p28_0 x.1) (Wp_ck (by rw [k7 x.1]) (Wp_bn (p28_3 x.1) (Wp_ck (by rw [k29 x.1]) (Wp_ck (by rw [k29 x.1]; exact inb_iv (by omega) (by omega) (by omega)) (Wp_lt ?_))))))
  have f1 : FrHl h (wJ h 29 (ix (iv n)) (hJ h 7 7)) := FrHl.rf.j
  have s1 : RdS T L (.inl f) (wJ h 29 (ix (iv n)) (hJ h 7 7)) := s.cg (by rw [hI_wJ]) (by funext j; rw [hJ_wJ, if_neg (by omega)])
  have x1 := f1.tx x
  generalize wJ h 29 (ix (iv n)) (hJ h 7 7) = h1 at f1 s1 x1 ⊢
  refine Wp_bn (p28_0 x1.1) (Wp_ck (by rw [k7 x1.1]) (Wp_bde (stepX x1.1 s1.1 s1.2) (Wp_ck (by rw [k28 x1.1]) ?_)))
  rw [il0]
  refine Wp_bd2 (eitherX (by omega) s1.1 (partX (by omega) s1.1 7 0 (by omega) (by omega) (by omega)) h1 x1 s1.2) ?_
  rintro - h2 ⟨f2, e2⟩
  have x2 := f2.tx x1
  rw [show (59 : Int32) = iv 59 from iv_lit _]
  refine Wp_ck (by rw [k28 x2.1]) (Wp_bd2 (signR (r := .inl f) hN x2 ⟨s1.1, e2⟩ (by omega)) ?_)
  rintro - h3 ⟨f3, s3⟩
  have x3 := f3.tx x2
  refine Wp_ck (by rw [k28 x3.1]) (Wp_bn (p28_1 x3.1) (Wp_ck (by rw [k16 x3.1]) (Wp_bd2 (endHabitX x3.1) ?_)))
  rintro - h4 ⟨f4, e4, e5⟩
  exact Wp_ret ⟨((f1.tr f2.hl).tr f3.hl).tr f4, RdS.cg (r := .inl f) s3 e4 e5⟩
theorem tW_b {b : Int} {T : Nat → Int} {L p : Nat} (hb : 27 ≤ b ∧ b ≤ 32) (h : tKd T L p = 2) : 0 ≤ tW b T L p ∧ tW b T L p < 1099511627776 := by
  have k2 := tKd_2.mp h
  exact en_b hb (tSz T L p) k2.2.2 (tLf_dgt k2.1 k2.2.1)
theorem nmK_iff {T : Nat → Int} {L : Nat} {P : Nat → Nat} {q : Nat} : ∀ n, nmK T L P q n = true ↔ ∃ i, i < n ∧ tW 32 T L (P i) = tW 32 T L q
  | 0 => ⟨fun h => (by cases h), fun ⟨j, h, _⟩ => by omega⟩
  | m + 1 => by
    rw [nmK, Bool.or_eq_true, nmK_iff m, decide_eq_true_iff]
    constructor
    · rintro (⟨j, h1, h3⟩ | h2)
      · exact ⟨j, by omega, h3⟩
      · exact ⟨m, by omega, h2⟩
    · rintro ⟨j, h1, h3⟩
      by_cases c : j = m
      · exact Or.inr (c ▸ h3)
      · exact Or.inl ⟨j, by omega, h3⟩
theorem isNamedL {N : Nat} {T : Nat → Int} {L q n : Nat} {P : Nat → Nat} {h : PH} (s : Shp h) (hn : n ≤ 4) (e12 : hI h 16 12 = iv n) (eJ : ∀ i, i < n → hJ h 29 i = jv (tW 32 T L (P i))) (hP : ∀ i, i < n → tKd T L (P i) = 2) (hq : tKd T L q = 2) : ∀ (m j : Nat), j + m = n → (∀ i, i < j → tW 32 T L (P i) ≠ tW 32 T L q) → ∀ fuel, m < fuel → Re_isNamed_b2 N fuel 28 (jv (tW 32 T L q)) (iv j) h = some (nmK T L P q n, h)
  | m, j, hj, no, fuel, hf => by
    obtain ⟨fu, rfl⟩ : ∃ g, fuel = g + 1 := ⟨fuel - 1, by omega⟩
    rw [Re_isNamed_b2]
    dsimp only
    rw [ck_p (by rw [k28 s]), p28_1 s, bn_s, ck_p (by rw [k16 s]), e12]
    simp only [show (iv (n : Int) ≤ iv (j : Int)) ↔ (n : Int) ≤ j from iv_le (by omega) (by omega) (by omega) (by omega)]
    by_cases c : (n : Int) ≤ j
    · rw [if_pos c, show nmK T L P q n = false from by
        rw [Bool.eq_false_iff]
        intro z
        obtain ⟨i, h1, h2⟩ := (nmK_iff _).mp z
        exact no i (by omega) h2]
    · rw [if_neg c, p28_3 s, bn_s, ck_p (by rw [k29 s]), k29 s, ofN]
      simp only [show (iv ((4 : Nat) : Int) ≤ iv (j : Int)) ↔ ((4 : Nat) : Int) ≤ j from iv_le (by omega) (by omega) (by omega) (by omega)]
      rw [if_neg (by omega), ck_p (inb_iv (by omega) (by omega) (by omega)), ix_nat (by omega), eJ j (by omega)]
      have b1 := tW_b (b := 32) (by omega) (hP j (by omega))
      have b2 := tW_b (b := 32) (by omega) hq
      simp only [show (lg_cmp (jv (tW 32 T L (P j))) (jv (tW 32 T L q)) = 0) ↔ tW 32 T L (P j) = tW 32 T L q from by rw [lg_cmp_eq, jv_eq (by omega) (by omega) (by omega) (by omega)]]
      by_cases d : tW 32 T L (P j) = tW 32 T L q
      · rw [if_pos d, show nmK T L P q n = true from (nmK_iff _).mpr ⟨j, by omega, d⟩]
      · rw [if_neg d, il1, iv_add]
        obtain ⟨m2, rfl⟩ : ∃ g, m = g + 1 := ⟨m - 1, by omega⟩
        exact isNamedL s hn e12 eJ hP hq m2 (j + 1) (by omega) (fun i hi => by
          by_cases e : i = j
          · rw [e]; exact d
          · exact no i (by omega)) fu (by omega)
theorem habitL {N : Nat} {T : Nat → Int} {L p : Nat} {S : Sta} {h : PH} (hN : 1100 ≤ N) (x : TxL T L h) (l : LexL T L p h) (hp : p ≤ L) (st : StaL T L S h) (h15 : 0 ≤ sH S 15 ∧ sH S 15 ≤ 4) (hP : ∀ i, i < (sH S 15).toNat → tKd T L (sPl S i) = 2) (hs : (catP (sE S) (sH S 15).toNat).length ≤ p) (hk3 : tKd T L p ≠ 3) : Wp (Re_habitLine N 28 h) (fun _ h2 => FrHl h h2 ∧ match haR T L (sH S) (sPl S) p with
    | .inl f => RdS T L (.inl f) h2
    | .inr (p2, e) => RdS T L (.inr p2) h2 ∧ p + 1 ≤ p2 ∧ StaL T L (mkS (up (sH S) 15 (sH S 15 + 1)) (sC S) (sK S) (sD S) (upN (sPl S) (sH S 15).toNat (tE T L p)) (upN (sE S) (sH S 15).toNat e)) h2 ∧ (catP (sE S) (sH S 15).toNat ++ post e).length ≤ p2) := by
  have sr : RdS T L (.inr p) h := ⟨l, hp⟩
  have hL := x.2.2.1
  have tg := tE_gt (T := T) (L := L) (p := p) hk3 hp
  have te := tE_le (T := T) (L := L) (p := p) hp
  have kd := kd_b (p := tE T L p) x.2.2.2.1
  have wb := tWx_b (T := T) (L := L) (p := tE T L p)
  have e12 : hI h 16 12 = iv (sH S 15) := st.1.1 12 (by omega)
  have bad5 : sH S 15 = 4 → Wp (Re_habitLine_b26 N 28 h) (fun _ h2 => FrHl h h2 ∧ match haR T L (sH S) (sPl S) p with
    | .inl f => RdS T L (.inl f) h2
    | .inr (p2, e) => RdS T L (.inr p2) h2 ∧ p + 1 ≤ p2 ∧ StaL T L (mkS (up (sH S) 15 (sH S 15 + 1)) (sC S) (sK S) (sD S) (upN (sPl S) (sH S 15).toNat (tE T L p)) (upN (sE S) (sH S 15).toNat e)) h2 ∧ (catP (sE S) (sH S 15).toNat ++ post e).length ≤ p2) := by
    intro c
    unfold Re_habitLine_b26
    rw [show (5 : Int32) = iv 5 from iv_lit _]
    refine Wp_ck (by rw [k28 x.1]) (Wp_bn (p28_0 x.1) (Wp_ck (by rw [k7 x.1]) (Wp_bd2 (blameR x sr (by omega)) ?_)))
    rintro - h2 ⟨f2, s2⟩
    refine Wp_ret ⟨f2.hl, ?_⟩
    unfold haR
    rw [if_pos c]
    exact s2
  unfold Re_habitLine
  refine Wp_ck (by rw [k28 x.1]) (Wp_bn (p28_1 x.1) (Wp_ck (by rw [k16 x.1]) ?_))
  rw [e12, il0, il4]
  refine Wp_ifn (by rw [iv_lt (by omega) (by omega) (by omega) (by omega)]; omega) (Wp_if (fun c => ?_) (fun c => ?_))
  · rw [iv_le (by omega) (by omega) (by omega) (by omega)] at c
    exact bad5 (by omega)
  rw [iv_le (by omega) (by omega) (by omega) (by omega)] at c
  refine Wp_bn (p28_3 x.1) (Wp_ck (by rw [k29 x.1]) ?_)
  rw [k29 x.1, ofN]
  refine Wp_ifp (by rw [iv_lt (by omega) (by omega) (by omega) (by omega)]; omega) (Wp_bn (p28_0 x.1) (Wp_ck (by rw [k7 x.1]) (Wp_bd2 (stepR hN x sr) ?_)))
  rintro - h1 ⟨f1, s1⟩
  have s1' : RdS T L (.inr (tE T L p)) h1 := s1
  have x1 := f1.tx x
  have st1 := st.f7 f1
  unfold haR
  rw [if_neg (show ¬ sH S 15 = 4 by omega)]
  have b76 : ¬ (tKd T L (tE T L p) = 2 ∧ (tWx T L (tE T L p) = -1 ∨ 23 ≤ tWx T L (tE T L p))) → Wp (Re_habitLine_b76 N 28 (iv (sH S 15)) h1) (fun _ h2 => FrHl h h2 ∧ RdS T L (.inl (1 + 16 * (tB T L (tE T L p) : Nat))) h2) := by
    intro nk
    unfold Re_habitLine_b76
    rw [il1]
    refine Wp_ck (by rw [k28 x1.1]) (Wp_bn (p28_0 x1.1) (Wp_ck (by rw [k7 x1.1]) (Wp_bd2 (blameR x1 s1' (by omega)) ?_)))
    rintro - h2 ⟨f2, s2⟩
    refine Wp_mono (habX hN (f2.tx x1) s2 (by omega)) ?_
    rintro - h3 ⟨f3, s3⟩
    exact ⟨(f1.tr f2).hl.tr f3, s3⟩
  have b87 : tKd T L (tE T L p) = 2 → Wp (Re_habitLine_b87 N 28 (iv (sH S 15)) h1) (fun _ h2 => FrHl h h2 ∧ match (if nmK T L (sPl S) (tE T L p) (sH S 15).toNat = true then (.inl (3 + 16 * (tB T L (tE T L p) : Nat)) : Int ⊕ (Nat × Ex)) else habR T L (tE T L (tE T L p))) with
    | .inl f => RdS T L (.inl f) h2
    | .inr (p2, e) => RdS T L (.inr p2) h2 ∧ p + 1 ≤ p2 ∧ StaL T L (mkS (up (sH S) 15 (sH S 15 + 1)) (sC S) (sK S) (sD S) (upN (sPl S) (sH S 15).toNat (tE T L p)) (upN (sE S) (sH S 15).toNat e)) h2 ∧ (catP (sE S) (sH S 15).toNat ++ post e).length ≤ p2) := by
    intro k2
    unfold Re_habitLine_b87 Re_isNamed
    refine Wp_ck (by rw [k28 x1.1]) (Wp_bn (p28_0 x1.1) (Wp_ck (by rw [k7 x1.1]) ?_))
    rw [s1'.1.2.2.2.2.2.1 k2]
    have nm := isNamedL (N := N) (T := T) (L := L) (q := tE T L p) (P := sPl S) (n := (sH S 15).toNat) x1.1 (by omega) (by rw [show (((sH S 15).toNat : Nat) : Int) = sH S 15 from by omega]; exact st1.1.1 12 (by omega)) st1.1.2.2.2.2.2.1 hP k2 (sH S 15).toNat 0 (by omega) (fun i hi => by omega) N (by omega)
    have nm2 : Re_isNamed_b2 N N 28 (jv (tW 32 T L (tE T L p))) 0 h1 = some (nmK T L (sPl S) (tE T L p) (sH S 15).toNat, h1) := nm
    refine Wp_bde nm2 ?_
    cases en : nmK T L (sPl S) (tE T L p) (sH S 15).toNat with
    | true =>
      refine Wp_ifn (by decide) (Wp_ck (by rw [k28 x1.1]) (Wp_bn (p28_0 x1.1) (Wp_ck (by rw [k7 x1.1]) ?_)))
      rw [il3]
      refine Wp_bd2 (blameR x1 s1' (by omega)) ?_
      rintro - h2 ⟨f2, s2⟩
      refine Wp_mono (habX hN (f2.tx x1) s2 (by omega)) ?_
      rintro - h3 ⟨f3, s3⟩
      exact ⟨(f1.tr f2).hl.tr f3, s3⟩
    | false =>
      refine Wp_ifp rfl ?_
      show Wp _ (fun _ h2 => FrHl h h2 ∧ match habR T L (tE T L (tE T L p)) with
        | .inl f => RdS T L (.inl f) h2
        | .inr (p2, e) => RdS T L (.inr p2) h2 ∧ p + 1 ≤ p2 ∧ StaL T L (mkS (up (sH S) 15 (sH S 15 + 1)) (sC S) (sK S) (sD S) (upN (sPl S) (sH S 15).toNat (tE T L p)) (upN (sE S) (sH S 15).toNat e)) h2 ∧ (catP (sE S) (sH S 15).toNat ++ post e).length ≤ p2)
      unfold Re_habitLine_b109
      refine Wp_ck (by rw [k28 x1.1]) (Wp_bn (p28_0 x1.1) (Wp_ck (by rw [k7 x1.1]) (Wp_bn (p28_3 x1.1) (Wp_ck (by rw [k29 x1.1]) (Wp_ck (by rw [k29 x1.1]; exact inb_iv (by omega) (by omega) (by omega)) (Wp_lt ?_))))))
      rw [s1'.1.2.2.2.2.2.1 k2, ix_iv (by omega) (by omega)]
      have f2 : FrHl h1 (wJ h1 29 (sH S 15).toNat (jv (tW 32 T L (tE T L p)))) := FrHl.rf.j
      have s2 : RdS T L (.inr (tE T L p)) (wJ h1 29 (sH S 15).toNat (jv (tW 32 T L (tE T L p)))) := s1'.cg (by rw [hI_wJ]) (by funext j; rw [hJ_wJ, if_neg (by omega)])
      have x2 := f2.tx x1
      have eI : hI (wJ h1 29 (sH S 15).toNat (jv (tW 32 T L (tE T L p)))) = hI h1 := by rw [hI_wJ]
      have eZ : hZ (wJ h1 29 (sH S 15).toNat (jv (tW 32 T L (tE T L p)))) = hZ h1 := rfl
      have eJ : ∀ i, i < (sH S 15).toNat + 1 → hJ (wJ h1 29 (sH S 15).toNat (jv (tW 32 T L (tE T L p)))) 29 i = jv (tW 32 T L (upN (sPl S) (sH S 15).toNat (tE T L p) i)) := by
        intro i hi
        rw [hJ_wJ]
        unfold upN
        by_cases c : i = (sH S 15).toNat
        · rw [if_pos ⟨rfl, c⟩, if_pos c]
        · rw [if_neg (fun z => c z.2), if_neg c]
          exact st1.1.2.2.2.2.2.1 i (by omega)
      generalize wJ h1 29 (sH S 15).toNat (jv (tW 32 T L (tE T L p))) = h2 at f2 s2 x2 eI eZ eJ ⊢
      have k3 : tKd T L (tE T L p) ≠ 3 := by omega
      have tg2 := tE_gt (T := T) (L := L) (p := tE T L p) k3 te
      have te2 := tE_le (T := T) (L := L) (p := tE T L p) te
      refine Wp_bn (p28_0 x2.1) (Wp_ck (by rw [k7 x2.1]) (Wp_bd2 (stepR hN x2 s2) ?_))
      rintro - h3 ⟨f3, s3⟩
      have s3' : RdS T L (.inr (tE T L (tE T L p))) h3 := s3
      have x3 := f3.tx x2
      have sl3 : StL (catP (sE S) (sH S 15).toNat) h3 := by
        have z := st1.1.2.2.2.2.2.2.1
        exact StL.fr ⟨by rw [eI]; exact z.1, fun k hk => by rw [eI]; exact z.2 k hk⟩ f3
      have rd := habReadL (c := tE T L (tE T L p) - (catP (sE S) (sH S 15).toNat).length) hN x3 s3'.1 te2 sl3 (by omega)
      rw [show (0 : Int32) = iv ((0 : Nat) : Int) from il0, show (59 : Int32) = iv 59 from iv_lit _]
      refine Wp_ck (by rw [k28 x3.1]) (Wp_bd2 rd ?_)
      rintro - h4 ⟨f4, w4⟩
      have x4 := f4.tx x3
      refine Wp_ck (by rw [k28 x4.1]) (Wp_bd2 w4 ?_)
      rintro - h5 ⟨f5, w5⟩
      have x5 := f5.tx x3
      refine Wp_ck (by rw [k28 x5.1]) (Wp_bn (p28_1 x5.1) (Wp_ck (by rw [k16 x5.1]) ?_))
      have f05 : FrHl h h5 := ((f1.hl.tr f2).tr f3.hl).tr f5.hl
      cases eh : habR T L (tE T L (tE T L p)) with
      | inl f =>
        rw [eh] at w5
        refine Wp_bd2 (endHabitX x5.1) ?_
        rintro - h6 ⟨f6, e6, e7⟩
        exact Wp_ret ⟨f05.tr f6, RdS.cg (r := .inl f) w5 e6 e7⟩
      | inr t =>
        obtain ⟨p2, e⟩ := t
        rw [eh] at w5
        obtain ⟨l5, hp2, sl5, hs5⟩ := w5
        rw [List.length_append] at hs5
        have f25 : FrQ h2 h5 := f3.q.tr f5
        obtain ⟨⟨a1, b1, c1, d1, y1, g1, i1, j1⟩, k1⟩ := st1
        have e512 : hI h5 16 12 = iv (sH S 15) := by
          rw [f25.2.2 12 (by omega), eI]
          exact a1 12 (by omega)
        unfold Ho_endHabit
        rw [p16_18 x5.1, e512]
        refine Wp_bd2 (P := fun _ h6 => h6 = wI (wI h5 21 (sH S 15).toNat (hI h5 16 13)) 16 12 (iv (sH S 15 + 1))) (Wp_ck (by rw [k16 x5.1]) (Wp_bde (put_in (k21 x5.1) (by omega) (by omega) (by omega)) ?_)) ?_
        · have q16 : hK (wI h5 21 (sH S 15).toNat (hI h5 16 13)) 16 = (0, 0) := by rw [hK_wI]; exact k16 x5.1
          refine Wp_ck (by rw [q16]) (Wp_ltr ?_)
          rw [hI_wI, if_neg (by omega), e512, il1, iv_add]
        · rintro - h6 rfl
          have f6 : FrHl h5 (wI (wI h5 21 (sH S 15).toNat (hI h5 16 13)) 16 12 (iv (sH S 15 + 1))) := (FrHl.rf.w (by omega)).w (by omega)
          have u15 : (up (sH S) 15 (sH S 15 + 1) 15).toNat = (sH S 15).toNat + 1 := by rw [up_s]; omega
          have ec : catP (upN (sE S) (sH S 15).toNat e) ((sH S 15).toNat + 1) = catP (sE S) (sH S 15).toNat ++ post e := by
            rw [catP, catP_up _ (Nat.le_refl _)]
            unfold upN
            rw [if_pos rfl]
          refine Wp_ret ⟨f05.tr f6, ⟨?_, hp2⟩, by omega, ⟨⟨fun g hg => ?_, fun k hk => ?_, ?_, fun k hk => ?_, fun k hk => ?_, fun k hk => ?_, ⟨?_, fun k hk => ?_⟩, fun k hk => ?_⟩, fun n hn => ?_⟩, by rw [List.length_append]; omega⟩
          · exact l5.cg (by funext j; rw [hI_wI, if_neg (by omega), hI_wI, if_neg (by omega)]) (by rw [hJ_wI, hJ_wI])
          · show hI (wI (wI h5 21 (sH S 15).toNat (hI h5 16 13)) 16 12 (iv (sH S 15 + 1))) 16 g = iv (cf (up (sH S) 15 (sH S 15 + 1)) g)
            have ex : cf (up (sH S) 15 (sH S 15 + 1)) g = if g = 12 then sH S 15 + 1 else cf (sH S) g := by (have cc : g = 0 ∨ g = 1 ∨ g = 2 ∨ g = 3 ∨ g = 4 ∨ g = 5 ∨ g = 6 ∨ g = 7 ∨ g = 8 ∨ g = 9 ∨ g = 10 ∨ g = 11 ∨ g = 12 := by omega); (rcases cc with rfl | rfl | rfl | rfl | rfl | rfl | rfl | rfl | rfl | rfl | rfl | rfl | rfl <;> rfl)
            rw [ex, hI_wI]
            by_cases c : g = 12
            · rw [if_pos ⟨rfl, c⟩, if_pos c]
            · rw [if_neg (fun z => c z.2), if_neg c, hI_wI, if_neg (by omega), f25.2.2 g (by omega), eI]
              exact a1 g hg
          · rw [hI_wI, if_neg (by omega), hI_wI, if_neg (by omega), f25.1.I (by omega), eI]; exact b1 k hk
          · rw [hI_wI, if_neg (by omega), hI_wI, if_neg (by omega), f25.1.I (by omega), eI]; exact c1
          · rw [hZ_wI, hZ_wI, f25.1.Z (by omega), eZ]; exact d1 k hk
          · rw [hZ_wI, hZ_wI, f25.1.Z (by omega), eZ]; exact y1 k hk
          · have hk2 : k < (up (sH S) 15 (sH S 15 + 1) 15).toNat := hk
            rw [u15] at hk2
            rw [hJ_wI, hJ_wI, f25.1.J (by omega)]; exact eJ k hk2
          · show hI (wI (wI h5 21 (sH S 15).toNat (hI h5 16 13)) 16 12 (iv (sH S 15 + 1))) 16 13 = iv ((catP (upN (sE S) (sH S 15).toNat e) (up (sH S) 15 (sH S 15 + 1) 15).toNat).length : Nat)
            rw [u15, ec, hI_wI, if_neg (by omega), hI_wI, if_neg (by omega)]
            exact sl5.1
          · have hk2 : k < (catP (upN (sE S) (sH S 15).toNat e) (up (sH S) 15 (sH S 15 + 1) 15).toNat).length := hk
            show hI (wI (wI h5 21 (sH S 15).toNat (hI h5 16 13)) 16 12 (iv (sH S 15 + 1))) 20 k = iv ((catP (upN (sE S) (sH S 15).toNat e) (up (sH S) 15 (sH S 15 + 1) 15).toNat).getD k 0)
            rw [u15, ec] at hk2 ⊢
            rw [hI_wI, if_neg (by omega), hI_wI, if_neg (by omega)]
            exact sl5.2 k hk2
          · have hk2 : k < (up (sH S) 15 (sH S 15 + 1) 15).toNat := hk
            rw [u15] at hk2
            show hI (wI (wI h5 21 (sH S 15).toNat (hI h5 16 13)) 16 12 (iv (sH S 15 + 1))) 21 k = iv ((catP (upN (sE S) (sH S 15).toNat e) (k + 1)).length : Nat)
            rw [hI_wI, if_neg (by omega), hI_wI]
            by_cases c : k = (sH S 15).toNat
            · rw [if_pos ⟨rfl, c⟩, c, ec, sl5.1]
            · rw [if_neg (fun z => c z.2), catP_up _ (by omega), f25.1.I (by omega), eI]
              exact j1 k (by omega)
          · show hI (wI (wI h5 21 (sH S 15).toNat (hI h5 16 13)) 16 12 (iv (sH S 15 + 1))) 17 n = iv (wsm (up (sH S) 15 (sH S 15 + 1)) n)
            rw [hI_wI, if_neg (by omega), hI_wI, if_neg (by omega), f25.1.I (by omega), eI]; exact k1 n hn
  refine Wp_ck (by rw [k28 x1.1]) (Wp_bn (p28_0 x1.1) (Wp_ck (by rw [k7 x1.1]) ?_))
  rw [s1'.1.2.2.1, s1'.1.2.2.2.2.1, il2, il1, iv_neg, show (23 : Int32) = iv 23 from iv_lit _]
  refine Wp_if (fun c2 => ?_) (fun c2 => ?_)
  · rw [iv_eq (by omega) (by omega) (by omega) (by omega)] at c2
    refine Wp_if (fun c3 => ?_) (fun c3 => ?_)
    · rw [iv_eq (by omega) (by omega) (by omega) (by omega)] at c3
      rw [if_neg (show ¬ ¬ (tKd T L (tE T L p) = 2 ∧ (tWx T L (tE T L p) = -1 ∨ 23 ≤ tWx T L (tE T L p))) from fun z => z ⟨c2, Or.inl c3⟩)]
      exact b87 c2
    · rw [iv_eq (by omega) (by omega) (by omega) (by omega)] at c3
      refine Wp_if (fun c4 => ?_) (fun c4 => ?_)
      · rw [iv_le (by omega) (by omega) (by omega) (by omega)] at c4
        rw [if_neg (show ¬ ¬ (tKd T L (tE T L p) = 2 ∧ (tWx T L (tE T L p) = -1 ∨ 23 ≤ tWx T L (tE T L p))) from fun z => z ⟨c2, Or.inr c4⟩)]
        exact b87 c2
      · rw [iv_le (by omega) (by omega) (by omega) (by omega)] at c4
        have nk : ¬ (tKd T L (tE T L p) = 2 ∧ (tWx T L (tE T L p) = -1 ∨ 23 ≤ tWx T L (tE T L p))) := by omega
        rw [if_pos nk]
        exact b76 nk
  · rw [iv_eq (by omega) (by omega) (by omega) (by omega)] at c2
    have nk : ¬ (tKd T L (tE T L p) = 2 ∧ (tWx T L (tE T L p) = -1 ∨ 23 ≤ tWx T L (tE T L p))) := fun z => c2 z.1
    rw [if_pos nk]
    exact b76 nk
