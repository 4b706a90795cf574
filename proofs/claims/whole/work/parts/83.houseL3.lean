/-! THE PURE PROOFS, 61: the class reads a house: a whole line of calls. -/
theorem StaL.t {T : Nat → Int} {L : Nat} {H C K G : Nat → Int} {P : Nat → Nat} {E : Nat → Ex} {h : PH} {v : Int} (x : StaL T L (mkS H C K G P E) h) : StaL T L (mkS (up H 17 v) C K G P E) (wI h 28 6 (iv v)) := by
  obtain ⟨⟨a, b, c, d, z, g, i, j⟩, k⟩ := x
  refine ⟨⟨fun g hg => ?_, fun k hk => ?_, ?_, d, z, g, ⟨?_, fun k hk => ?_⟩, fun k hk => ?_⟩, fun n hn => ?_⟩
  · rw [hI_wI, if_neg (by omega)]
    exact (a g hg).trans (by congr 1)
  · rw [hI_wI, if_neg (by omega)]; exact b k hk
  · rw [hI_wI, if_pos ⟨rfl, rfl⟩]; rfl
  · rw [hI_wI, if_neg (by omega)]; exact i.1
  · rw [hI_wI, if_neg (by omega)]; exact i.2 k hk
  · rw [hI_wI, if_neg (by omega)]; exact j k hk
  · rw [hI_wI, if_neg (by omega)]; exact k n hn
theorem caA_b {T : Nat → Int} {L : Nat} {q : Int} {r : Int ⊕ Nat} (hq : 1 ≤ q ∧ q ≤ 24) : 0 ≤ caA T L q r ∧ caA T L q r ≤ 23 := by
  have := numZ_b (T := T) (L := L) (r := r) (lo := 0) (hi := q - 1)
  unfold caA
  omega
theorem caB_b {T : Nat → Int} {L : Nat} {K : Nat → Int} {q : Int} {r : Int ⊕ Nat} (hq : 1 ≤ q ∧ q ≤ 24) : 0 ≤ caB T L K q r ∧ caB T L K q r ≤ 23 := by
  have a := caA_b (T := T) (L := L) (r := r) hq
  have := numZ_b (T := T) (L := L) (r := caP T L K q r) (lo := caA T L q r) (hi := q - 1)
  unfold caB
  omega
theorem cc_b {T : Nat → Int} {L : Nat} {r : Int ⊕ Nat} : 0 ≤ numZ T L 0 10 r ∧ numZ T L 0 10 r ≤ 10 := by
  have := numZ_b (T := T) (L := L) (r := r) (lo := 0) (hi := 10)
  omega
/-- the chances, and what follows -/
theorem chancesL {N : Nat} {T : Nat → Int} {L : Nat} {H C K G : Nat → Int} {P : Nat → Nat} {E : Nat → Ex} {r : Int ⊕ Nat} {h : PH} {a b : Int} (hN : 1100 ≤ N) (x : TxL T L h) (s : RdS T L r h) (st : StaL T L (mkS H C K G P E) h) (ha : 0 ≤ a ∧ a ≤ 23) (hb : 0 ≤ b ∧ b ≤ 23) : Wp (Re_callsLine_b119 N N 28 (iv a) (iv b) 0 0 h) (fun _ h2 => FrHl h h2 ∧ RdS T L (ccR T L r) h2 ∧ StaL T L (mkS H (setC (setC (setC (setC C a b 0 (cc0 T L r)) a b 1 (cc1 T L r)) a b 2 (cc2 T L r)) a b 3 (cc3 T L r)) (setK K a b) G P E) h2) := by
  have key : ∀ fuel, 5 ≤ fuel → Wp (Re_callsLine_b119 N fuel 28 (iv a) (iv b) (iv 0) (iv ((0 : Nat) : Int)) h) (fun _ h2 => FrHl h h2 ∧ RdS T L (ccR T L r) h2 ∧ StaL T L (mkS H (setC (setC (setC (setC C a b 0 (cc0 T L r)) a b 1 (cc1 T L r)) a b 2 (cc2 T L r)) a b 3 (cc3 T L r)) (setK K a b) G P E) h2) := by
    intro fuel hf
    obtain ⟨g, rfl⟩ : ∃ g, fuel = ((((g + 1) + 1) + 1) + 1) + 1 := ⟨fuel - 5, by omega⟩
    rw [Re_callsLine_b119]
    refine Wp_ifn (by decide) (Wp_ifn (by decide) (cstepL (k := 0) hN x s st (by omega) ha hb (fun h1 f1 x1 s1 t1 => ?_)))
    rw [Re_callsLine_b119]
    refine Wp_ifn (by decide) (Wp_ifn (by decide) (cstepL (k := 1) hN x1 s1 t1 (by omega) ha hb (fun h2 f2 x2 s2 t2 => ?_)))
    rw [Re_callsLine_b119]
    refine Wp_ifn (by decide) (Wp_ifn (by decide) (cstepL (k := 2) hN x2 s2 t2 (by omega) ha hb (fun h3 f3 x3 s3 t3 => ?_)))
    rw [Re_callsLine_b119]
    have z0 := cc_b (T := T) (L := L) (r := r)
    have z1 := cc_b (T := T) (L := L) (r := numP T L 0 10 r)
    have z2 := cc_b (T := T) (L := L) (r := numP T L 0 10 (numP T L 0 10 r))
    refine Wp_ifn (by decide) (Wp_ifp (by decide) (Wp_ck (by rw [k28 x3.1]) (Wp_bn (p28_0 x3.1) (Wp_ck (by rw [k7 x3.1]) (fourthR x3 s3 (by omega) (fun h4 r4 f4 s4 e4 w4 => ?_))))))
    have x4 := f4.tx x3
    refine cstepL (k := 3) hN x4 s4 (t3.f7 f4) (by omega) ha hb (fun h5 f5 x5 s5 t5 => ?_)
    rw [Re_callsLine_b119, show (59 : Int32) = iv 59 from iv_lit _]
    have es : 0 + numZ T L 0 10 r + numZ T L 0 10 (numP T L 0 10 r) + numZ T L 0 10 (numP T L 0 10 (numP T L 0 10 r)) = ccs T L r := by
      unfold ccs cc0 cc1 cc2
      omega
    rw [es] at e4 w4
    rw [e4] at s5
    rw [w4] at t5
    refine Wp_ifp (by decide) (Wp_ck (by rw [k28 x5.1]) (Wp_bd2 (signR hN x5 s5 (by omega)) ?_))
    rintro - h6 ⟨f6, s6⟩
    have x6 := f6.tx x5
    have t6 := t5.f7 f6
    refine Wp_ck (by rw [k28 x6.1]) ?_
    unfold Re_markCalled
    refine Wp_bd2 (markCalledL (K := K) ha hb x6.1 t6.1.2.2.2.1 (b + 1 - a).toNat a h6 (by omega) (by omega) FrHl.rf rfl rfl (fun _ _ => rfl) (fun q hq => ?_) N (by omega)) ?_
    · rw [t6.1.2.2.2.1 q hq]
      unfold setK
      congr 1
      rw [if_neg (by omega)]
      rfl
    · rintro - h7 ⟨f7, e1, e2, e3, e5⟩
      obtain ⟨⟨a1, b1, c1, d1, y1, g1, i1, j1⟩, k1⟩ := t6
      refine Wp_ret ⟨((((f1.tr f2).tr f3).tr f4.hl).tr f5).tr (f6.hl.tr f7), s6.cg (by rw [e1]) (by rw [e2]), ?_⟩
      refine ⟨⟨fun k hk => ?_, fun k hk => ?_, ?_, e5, fun k hk => ?_, fun k hk => ?_, ⟨?_, fun k hk => ?_⟩, fun k hk => ?_⟩, fun n hn => ?_⟩
      · rw [e1]; exact a1 k hk
      · rw [e1]; exact b1 k hk
      · rw [e1]; exact c1
      · rw [e3 30 (by omega)]; exact y1 k hk
      · rw [e2]; exact g1 k hk
      · rw [e1]; exact i1.1
      · rw [e1]; exact i1.2 k hk
      · rw [e1]; exact j1 k hk
      · rw [e1]; exact k1 n hn
  exact key N (by omega)
theorem callsL {N : Nat} {T : Nat → Int} {L p : Nat} {S : Sta} {h : PH} (hN : 1100 ≤ N) (x : TxL T L h) (l : LexL T L p h) (hp : p ≤ L) (st : StaL T L S h) (h0 : 1 ≤ sH S 0 ∧ sH S 0 ≤ 24) (h17 : 0 ≤ sH S 17 ∧ sH S 17 ≤ 8) : Wp (Re_callsLine N 28 h) (fun _ h2 => FrHl h h2 ∧ RdS T L (if sH S 17 = 8 then .inl (5 + 16 * (tB T L p : Nat)) else ccR T L (caQ T L (sK S) (sH S 0) (.inr (tE T L p)))) h2 ∧ (sH S 17 ≠ 8 → StaL T L (mkS (up (sH S) 17 (sH S 17 + 1)) (caC T L (sC S) (sK S) (sH S 0) (.inr (tE T L p))) (setK (sK S) (caA T L (sH S 0) (.inr (tE T L p))) (caB T L (sK S) (sH S 0) (.inr (tE T L p)))) (sD S) (sPl S) (sE S)) h2)) := by
  have sr : RdS T L (.inr p) h := ⟨l, hp⟩
  unfold Re_callsLine
  refine Wp_ck (by rw [k28 x.1]) ?_
  rw [st.1.2.2.1, il8]
  refine Wp_if (fun c => ?_) (fun c => ?_)
  · rw [iv_lt (by omega) (by omega) (by omega) (by omega)] at c
    rw [if_neg (show ¬ sH S 17 = 8 by omega), il1, iv_add]
    have t1 : StaL T L (mkS (up (sH S) 17 (sH S 17 + 1)) (sC S) (sK S) (sD S) (sPl S) (sE S)) (wI h 28 6 (iv (sH S 17 + 1))) := StaL.t (H := sH S) st
    have f1 : FrHl h (wI h 28 6 (iv (sH S 17 + 1))) := FrHl.rf.w (by omega)
    have s1 := sr.w (a := 28) (i := 6) (v := iv (sH S 17 + 1)) (by omega)
    have x1 := f1.tx x
    refine Wp_lt ?_
    generalize wI h 28 6 (iv (sH S 17 + 1)) = h1 at t1 f1 s1 x1 ⊢
    refine Wp_bn (p28_0 x1.1) (Wp_ck (by rw [k7 x1.1]) (Wp_bd2 (stepR hN x1 s1) ?_))
    rintro - h2 ⟨f2, s2⟩
    have s2' : RdS T L (.inr (tE T L p)) h2 := s2
    generalize (Sum.inr (tE T L p) : Int ⊕ Nat) = r at s2' ⊢
    have x2 := f2.tx x1
    have t2 := t1.f7 f2
    have a := caA_b (T := T) (L := L) (r := r) h0
    have b := caB_b (T := T) (L := L) (K := sK S) (r := r) h0
    have e0 : ∀ k, StaL T L (mkS (up (sH S) 17 (sH S 17 + 1)) (sC S) (sK S) (sD S) (sPl S) (sE S)) k → hI k 16 0 = iv (sH S 0) := fun k t => t.1.1 0 (by omega)
    have fin : ∀ h5, FrHl h h5 → TxL T L h5 → RdS T L (caP T L (sK S) (sH S 0) r) h5 → StaL T L (mkS (up (sH S) 17 (sH S 17 + 1)) (sC S) (sK S) (sD S) (sPl S) (sE S)) h5 → Wp (Re_callsLine_b99 N 28 (iv (caA T L (sH S 0) r)) h5) (fun _ h2 => FrHl h h2 ∧ RdS T L (ccR T L (caQ T L (sK S) (sH S 0) r)) h2 ∧ (sH S 17 ≠ 8 → StaL T L (mkS (up (sH S) 17 (sH S 17 + 1)) (caC T L (sC S) (sK S) (sH S 0) r) (setK (sK S) (caA T L (sH S 0) r) (caB T L (sK S) (sH S 0) r)) (sD S) (sPl S) (sE S)) h2)) := by
      intro h5 f5 x5 s5 t5
      unfold Re_callsLine_b99
      refine Wp_ck (by rw [k28 x5.1]) (Wp_bn (p28_1 x5.1) (Wp_ck (by rw [k16 x5.1]) ?_))
      rw [e0 h5 t5, il1, iv_sub]
      refine Wp_bd2 (numberR hN x5 s5 (by omega) (by omega)) ?_
      rintro v h6 ⟨rfl, f6, s6⟩
      have x6 := f6.tx x5
      refine Wp_mono (chancesL (b := caB T L (sK S) (sH S 0) r) hN x6 s6 (t5.f7 f6) a b) ?_
      rintro - h7 ⟨f7, s7, t7⟩
      exact ⟨(f5.tr f6.hl).tr f7, s7, fun _ => t7⟩
    refine Wp_ck (by rw [k28 x2.1]) (Wp_bn (p28_1 x2.1) (Wp_ck (by rw [k16 x2.1]) ?_))
    rw [e0 h2 t2, il0, iv_sub]
    refine Wp_bd2 (numberR hN x2 s2' (by omega) (by omega)) ?_
    rintro v h3 ⟨rfl, f3, s3⟩
    have x3 := f3.tx x2
    rw [show (15 : Int32) = iv 15 from iv_lit _]
    refine Wp_ck (by rw [k28 x3.1]) (Wp_bd2 (keywordR hN x3 s3 (by omega)) ?_)
    rintro - h4 ⟨f4, s4⟩
    have x4 := f4.tx x3
    have t4 := (t2.f7 f3).f7 f4
    have f04 : FrHl h h4 := ((f1.tr f2.hl).tr f3.hl).tr f4.hl
    refine Wp_ck (by rw [k28 x4.1]) (Wp_bn (p28_1 x4.1) (Wp_ck (by rw [k16 x4.1]) (Wp_bn (p28_0 x4.1) (Wp_ck (by rw [k7 x4.1]) ?_))))
    rw [e0 h4 t4, iv_sub]
    show Wp (bd (Ta_isNumber N 7 (iv (caA T L (sH S 0) r)) (iv (sH S 0 - 1)) h4) fun v29 h30 =>
      if (bI v29) = 0 then
        Re_callsLine_b99 N 28 (iv (caA T L (sH S 0) r)) h30
      else
        ck ((hK h30 28).1 = 4) <|
        ((hR h30 28 0)).bind fun a_34 =>
        ck ((hK h30 a_34).1 = 8) <|
        bd (Re_isCalled N 28 (iv (caA T L (sH S 0) r)) (hI h30 a_34 5) h30) fun v37 h38 =>
        if (bI v37) = 0 then
          Re_callsLine_b99 N 28 (iv (caA T L (sH S 0) r)) h38
        else
          ck ((hK h38 28).1 = 4) <|
          ((hR h38 28 0)).bind fun a_42 =>
          ck ((hK h38 a_42).1 = 8) <|
          bd (Ta_blame N a_42 3 h38) fun v45 h46 =>
          Re_callsLine_b99 N 28 (iv (caA T L (sH S 0) r)) h46) _
    have hk2 := t4.1.2.2.2.1
    have s4' : RdS T L (keyR T L 15 (numP T L 0 (sH S 0 - 1) r)) h4 := s4
    have ep : caP T L (sK S) (sH S 0) r = caX T L (sK S) (sH S 0) (caA T L (sH S 0) r) (keyR T L 15 (numP T L 0 (sH S 0 - 1) r)) := rfl
    generalize keyR T L 15 (numP T L 0 (sH S 0 - 1) r) = r4 at s4' ep
    cases r4 with
    | inl f =>
      have ep2 : caP T L (sK S) (sH S 0) r = .inl f := ep
      rw [ep2] at fin
      obtain ⟨bb, eb, bt⟩ := isNumX2 (N := N) (lo := iv (caA T L (sH S 0) r)) (hi := iv (sH S 0 - 1)) x4.1
      refine Wp_bde eb (Wp_if (fun _ => fin h4 f04 x4 s4' t4) (fun c1 => ?_))
      have bt2 := bt (by rw [bI_0] at c1; simpa using c1)
      have et : hI h4 7 5 = iv (hI h4 7 5).toInt := (iv_of _).symm
      have l1 := Int32.toInt_lt (hI h4 7 5)
      have l2 := Int32.le_toInt (hI h4 7 5)
      refine Wp_ck (by rw [k28 x4.1]) (Wp_bn (p28_0 x4.1) (Wp_ck (by rw [k7 x4.1]) ?_))
      generalize (hI h4 7 5).toInt = z at et l1 l2
      rw [et] at bt2 ⊢
      rw [iv_lt (by omega) (by omega) (by omega) (by omega), iv_lt (by omega) (by omega) (by omega) (by omega)] at bt2
      unfold Re_isCalled
      refine Wp_bde (isCalledL (K := sK S) x4.1 hk2 (by omega) (z + 1 - caA T L (sH S 0) r).toNat _ (by omega) (by omega) N (by omega)) (Wp_if (fun _ => fin h4 f04 x4 s4' t4) (fun _ => ?_))
      refine Wp_ck (by rw [k28 x4.1]) (Wp_bn (p28_0 x4.1) (Wp_ck (by rw [k7 x4.1]) ?_))
      exact Wp_bde (blameX x4.1 s4'.1 s4'.2) (fin h4 f04 x4 s4' t4)
    | inr p4 =>
      have ep2 : caP T L (sK S) (sH S 0) r = if tKd T L p4 = 1 ∧ caA T L (sH S 0) r ≤ tNm T L p4 ∧ tNm T L p4 ≤ sH S 0 - 1 ∧ anK (sK S) (caA T L (sH S 0) r) (tNm T L p4 + 1).toNat = true then .inl (3 + 16 * (tB T L p4 : Nat)) else .inr p4 := ep
      refine Wp_bde (isNumL x4 s4'.1 (by omega) (by omega)) ?_
      simp only [bI_0]
      by_cases c : tKd T L p4 = 1 ∧ caA T L (sH S 0) r ≤ tNm T L p4 ∧ tNm T L p4 ≤ sH S 0 - 1
      · rw [decide_eq_true c]
        refine Wp_ifn (by decide) (Wp_ck (by rw [k28 x4.1]) (Wp_bn (p28_0 x4.1) (Wp_ck (by rw [k7 x4.1]) ?_)))
        rw [s4'.1.2.2.2.1 c.1]
        unfold Re_isCalled
        refine Wp_bde (isCalledL (K := sK S) x4.1 hk2 (by omega) (tNm T L p4 + 1 - caA T L (sH S 0) r).toNat _ (by omega) (by omega) N (by omega)) ?_
        by_cases d : anK (sK S) (caA T L (sH S 0) r) (tNm T L p4 + 1).toNat = true
        · rw [if_pos ⟨c.1, c.2.1, c.2.2, d⟩] at ep2
          rw [d]
          refine Wp_ifn (by decide) (Wp_ck (by rw [k28 x4.1]) (Wp_bn (p28_0 x4.1) (Wp_ck (by rw [k7 x4.1]) ?_)))
          rw [il3]
          refine Wp_bd2 (blameR x4 s4' (by omega)) ?_
          rintro - h5 ⟨f5, s5⟩
          exact fin h5 (f04.tr f5.hl) (f5.tx x4) (by rw [ep2]; exact s5) (t4.f7 f5)
        · rw [if_neg (fun z => d z.2.2.2)] at ep2
          rw [Bool.eq_false_iff.mpr d]
          exact Wp_ifp rfl (fin h4 f04 x4 (by rw [ep2]; exact s4') t4)
      · rw [decide_eq_false c]
        rw [if_neg (fun z => c ⟨z.1, z.2.1, z.2.2.1⟩)] at ep2
        exact Wp_ifp rfl (fin h4 f04 x4 (by rw [ep2]; exact s4') t4)
  · rw [iv_lt (by omega) (by omega) (by omega) (by omega)] at c
    have c8 : sH S 17 = 8 := by omega
    rw [if_pos c8, show (5 : Int32) = iv 5 from iv_lit _]
    refine Wp_bn (p28_0 x.1) (Wp_ck (by rw [k7 x.1]) (Wp_bd2 (blameR x sr (by omega)) ?_))
    rintro - h2 ⟨f2, s2⟩
    exact Wp_ret ⟨f2.hl, s2, fun z => absurd c8 z⟩
